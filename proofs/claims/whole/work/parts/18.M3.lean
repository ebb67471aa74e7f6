def f_M_tells (v1 : Int32) (v2 : Int32) (v3 : Int32) (m : jMem) : Option (Int32 × jMem) :=
  jpu m 109 0 (0 : Int32) fun m1 =>
  jbd (f_M_isLetter v1 m1) fun x2 m3 =>
  if x2 = 0 then
    some ((-1 : Int32), m3)
  else
    jbd (f_M_isLetter v2 m3) fun x4 m5 =>
    if x4 = 0 then
      some ((-1 : Int32), m5)
    else
      if v1 = v2 then
        some ((-1 : Int32), m5)
      else
        if v3 < 0 then
          some ((-1 : Int32), m5)
        else
          if v3 ≤ (3 : Int32) then
            jbd (f_M_bears v3 m5) fun u6 m7 =>
            jbd (f_M_isTold v1 v2 v3 m7) fun x8 m9 =>
            jbd (f_M_is x8 m9) fun x10 m11 =>
            some (x10, m11)
          else
            some ((-1 : Int32), m5)
theorem c_M_tells {G : jG} (hG : jFul G) {v1 : Int32} {v2 : Int32} {v3 : Int32} {m : jMem} {r : (Int32 × jMem)} (h : f_M_tells v1 v2 v3 m = some r) : jCt G Y_M_tells [jr G 109, .int v1, .int v2, .int v3] m (jri r) := by
  refine jCt.ov (ls := [(0, jr G 109), (1, .int v1), (2, .int v2), (3, .int v3)]) mi_M_tells (jAvR (jAvI (jAvI (jAvI jAvN)))) (Nat.le_of_ble_eq_true rfl) ?_ ⟨rfl, rfl⟩
  unfold f_M_tells at h
  refine J.aload_n 0 d_M_tells_0 rfl rfl ?_
  refine J.iconst (v := (0 : Int32)) d_M_tells_1 ki_0 ?_
  obtain ⟨m1, hm1, h⟩ := jpu_some h
  refine J.putI hG d_M_tells_2 fl_M_132 fp_10_0 ck_109_0 hm1 ?_
  refine J.aload_n 0 d_M_tells_5 rfl rfl ?_
  refine J.iload_n 1 d_M_tells_6 rfl rfl ?_
  obtain ⟨x2, m3, zm3, h⟩ := jbd_some h
  refine J.cVi Y_M_isLetter (As := [.int v1]) (rest := []) hG d_M_tells_7 mi_M_isLetter mv_M_isLetter lk_M_309 ⟨rfl, rfl, Nat.le_of_ble_eq_true rfl⟩ cq_109 cc_10 (c_M_isLetter hG zm3) rfl (Nat.le_trans jcN (Nat.le_of_ble_eq_true rfl)) ?_
  refine J.if_eq 35 d_M_tells_10 rfl (fun c => ?_) (fun c => ?_)
  · rw [if_pos c] at h
    refine J.iconst (v := (-1 : Int32)) d_M_tells_35 ki_m1 ?_
    cases h
    exact J.iret d_M_tells_36 rfl (vp_nar_int _) rfl
  · rw [if_neg c] at h
    refine J.aload_n 0 d_M_tells_13 rfl rfl ?_
    refine J.nop (pc' := 14) rfl ?_
    refine J.iload_n 2 d_M_tells_14 rfl rfl ?_
    obtain ⟨x4, m5, zm5, h⟩ := jbd_some h
    refine J.cVi Y_M_isLetter (As := [.int v2]) (rest := []) hG d_M_tells_15 mi_M_isLetter mv_M_isLetter lk_M_309 ⟨rfl, rfl, Nat.le_of_ble_eq_true rfl⟩ cq_109 cc_10 (c_M_isLetter hG zm5) rfl (Nat.le_trans jcN (Nat.le_of_ble_eq_true rfl)) ?_
    refine J.if_eq 35 d_M_tells_18 rfl (fun c => ?_) (fun c => ?_)
    · rw [if_pos c] at h
      refine J.iconst (v := (-1 : Int32)) d_M_tells_35 ki_m1 ?_
      cases h
      exact J.iret d_M_tells_36 rfl (vp_nar_int _) rfl
    · rw [if_neg c] at h
      refine J.iload_n 1 d_M_tells_21 rfl rfl ?_
      refine J.iload_n 2 d_M_tells_22 rfl rfl ?_
      refine J.icmp_eq 35 d_M_tells_23 rfl (fun c => ?_) (fun c => ?_)
      · rw [if_pos c] at h
        refine J.iconst (v := (-1 : Int32)) d_M_tells_35 ki_m1 ?_
        cases h
        exact J.iret d_M_tells_36 rfl (vp_nar_int _) rfl
      · rw [if_neg c] at h
        refine J.iload_n 3 d_M_tells_26 rfl rfl ?_
        refine J.if_lt 35 d_M_tells_27 rfl (fun c => ?_) (fun c => ?_)
        · rw [if_pos c] at h
          refine J.iconst (v := (-1 : Int32)) d_M_tells_35 ki_m1 ?_
          cases h
          exact J.iret d_M_tells_36 rfl (vp_nar_int _) rfl
        · rw [if_neg c] at h
          refine J.nop (pc' := 30) rfl ?_
          refine J.iload_n 3 d_M_tells_30 rfl rfl ?_
          refine J.iconst (v := (3 : Int32)) d_M_tells_31 ki_3 ?_
          refine J.icmp_le 37 d_M_tells_32 rfl (fun c => ?_) (fun c => ?_)
          · rw [if_pos c] at h
            refine J.aload_n 0 d_M_tells_37 rfl rfl ?_
            refine J.iload_n 3 d_M_tells_38 rfl rfl ?_
            obtain ⟨u6, m7, zm7, h⟩ := jbd_some h
            refine J.cVv Y_M_bears (As := [.int v3]) (rest := []) hG d_M_tells_39 mi_M_bears mv_M_bears lk_M_377 ⟨rfl, rfl, Nat.le_of_ble_eq_true rfl⟩ cq_109 cc_10 (c_M_bears hG zm7) rfl (Nat.le_trans jcN (Nat.le_of_ble_eq_true rfl)) ?_
            refine J.aload_n 0 d_M_tells_42 rfl rfl ?_
            refine J.iload_n 1 d_M_tells_43 rfl rfl ?_
            refine J.iload_n 2 d_M_tells_44 rfl rfl ?_
            refine J.iload_n 3 d_M_tells_45 rfl rfl ?_
            obtain ⟨x8, m9, zm9, h⟩ := jbd_some h
            refine J.cVi Y_M_isTold (As := [.int v1, .int v2, .int v3]) (rest := []) hG d_M_tells_46 mi_M_isTold mv_M_isTold lk_M_380 ⟨rfl, rfl, Nat.le_of_ble_eq_true rfl⟩ cq_109 cc_10 (c_M_isTold hG zm9) rfl (Nat.le_trans jcN (Nat.le_of_ble_eq_true rfl)) ?_
            refine J.nop (pc' := 49) rfl ?_
            obtain ⟨x10, m11, zm11, h⟩ := jbd_some h
            refine J.cSi Y_M_is (As := [.int x8]) (rest := []) d_M_tells_49 mi_M_is ms_M_is lk_M_270 ⟨rfl, rfl, Nat.le_of_ble_eq_true rfl⟩ (c_M_is hG zm11) rfl (Nat.le_trans jcN (Nat.le_of_ble_eq_true rfl)) ?_
            cases h
            exact J.iret d_M_tells_52 rfl (vp_nar_int _) rfl
          · rw [if_neg c] at h
            refine J.iconst (v := (-1 : Int32)) d_M_tells_35 ki_m1 ?_
            cases h
            exact J.iret d_M_tells_36 rfl (vp_nar_int _) rfl

def lp_M_errs_36 (v1 : Int32) (v3 : Int32) (k83 : Int32 → jMem → Option (Int32 × jMem)) : Nat → Int32 → Int32 → jMem → Option (Int32 × jMem)
  | 0, _, _, _ => none
  | n + 1, v2, v4, m =>
    if (m 109 33) ≤ v4 then
      k83 v2 m
    else
      if v3 = v4 then
        lp_M_errs_36 v1 v3 k83 n (v2 + (0 : Int32)) (v4 + (1 : Int32)) m
      else
        jbd (f_M_isTold v3 v4 v1 m) fun x4 m5 =>
        jbd (f_M_isBefore v3 v4 m5) fun x6 m7 =>
        if x4 = x6 then
          lp_M_errs_36 v1 v3 k83 n (v2 + (0 : Int32)) (v4 + (1 : Int32)) m7
        else
          lp_M_errs_36 v1 v3 k83 n (v2 + (1 : Int32)) (v4 + (1 : Int32)) m7
def lp_M_errs_25 (v1 : Int32) (k89 : Int32 → jMem → Option (Int32 × jMem)) : Nat → Int32 → Int32 → jMem → Option (Int32 × jMem)
  | 0, _, _, _ => none
  | n + 1, v2, v3, m =>
    if (m 109 33) ≤ v3 then
      k89 v2 m
    else
      lp_M_errs_36 v1 v3 (fun w9 m8 =>
        lp_M_errs_25 v1 k89 n w9 (v3 + (1 : Int32)) m8) 5000 v2 (0 : Int32) m
def f_M_errs (v1 : Int32) (m : jMem) : Option (Int32 × jMem) :=
  jpu m 109 0 (0 : Int32) fun m1 =>
  if v1 < 0 then
    some ((-1 : Int32), m1)
  else
    if v1 ≤ (3 : Int32) then
      jbd (f_M_bears v1 m1) fun u2 m3 =>
      lp_M_errs_25 v1 (fun w11 m10 =>
        some (w11, m10)) 5000 (0 : Int32) (0 : Int32) m3
    else
      some ((-1 : Int32), m1)
theorem jlp_M_errs_36 {G : jG} (hG : jFul G) (v1 : Int32) (v3 : Int32) (k83 : Int32 → jMem → Option (Int32 × jMem))
    (hk83 : ∀ (v2 : Int32) (m : jMem) (r : (Int32 × jMem)), k83 v2 m = some r → J G Y_M_errs 83 [(0, jr G 109), (1, .int v1), (2, .int v2), (3, .int v3)] [] m (jri r)) : ∀ (n : Nat) (v2 : Int32) (v4 : Int32) (m : jMem) (r : (Int32 × jMem)), lp_M_errs_36 v1 v3 k83 n v2 v4 m = some r → J G Y_M_errs 36 [(0, jr G 109), (1, .int v1), (2, .int v2), (3, .int v3), (4, .int v4)] [] m (jri r) := by
  intro n
  induction n with
  | zero => intro v2 v4 m r h; unfold lp_M_errs_36 at h; cases h
  | succ n ih =>
    intro v2 v4 m r h
    unfold lp_M_errs_36 at h
    refine J.iload 4 d_M_errs_36 rfl ?_
    refine J.aload_n 0 d_M_errs_38 rfl rfl ?_
    refine J.getI hG d_M_errs_39 fl_M_277 ck_109_33 ?_
    refine J.icmp_ge 83 d_M_errs_42 rfl (fun c => ?_) (fun c => ?_)
    · rw [if_pos c] at h
      exact J.sub (ls' := [(0, jr G 109), (1, .int v1), (2, .int v2), (3, .int v3)]) [0, 1, 2, 3] rfl (hk83 v2 m _ h)
    · rw [if_neg c] at h
      refine J.iload_n 2 d_M_errs_45 rfl rfl ?_
      refine J.iload_n 3 d_M_errs_46 rfl rfl ?_
      refine J.iload 4 d_M_errs_47 rfl ?_
      refine J.icmp_eq 74 d_M_errs_49 rfl (fun c => ?_) (fun c => ?_)
      · rw [if_pos c] at h
        refine J.iconst (v := (0 : Int32)) d_M_errs_74 ki_0 ?_
        refine J.iadd d_M_errs_75 ?_
        refine J.istore_n (lv := [(2, .int (v2 + (0 : Int32))), (0, jr G 109), (1, .int v1), (3, .int v3), (4, .int v4)]) d_M_errs_76 rfl (by decide) rfl ?_
        refine J.iinc 4 (v := (1 : Int32)) (lv := [(4, .int (v4 + (1 : Int32))), (2, .int (v2 + (0 : Int32))), (0, jr G 109), (1, .int v1), (3, .int v3)]) d_M_errs_77 rfl ki_1 (by decide) rfl ?_
        refine J.goto 36 d_M_errs_80 rfl ?_
        exact J.sub (ls' := [(0, jr G 109), (1, .int v1), (2, .int (v2 + (0 : Int32))), (3, .int v3), (4, .int (v4 + (1 : Int32)))]) [2, 3, 1, 4, 0] rfl (ih (v2 + (0 : Int32)) (v4 + (1 : Int32)) m _ h)
      · rw [if_neg c] at h
        refine J.nop (pc' := 52) rfl ?_
        refine J.aload_n 0 d_M_errs_52 rfl rfl ?_
        refine J.iload_n 3 d_M_errs_53 rfl rfl ?_
        refine J.iload 4 d_M_errs_54 rfl ?_
        refine J.iload_n 1 d_M_errs_56 rfl rfl ?_
        obtain ⟨x4, m5, zm5, h⟩ := jbd_some h
        refine J.cVi Y_M_isTold (As := [.int v3, .int v4, .int v1]) (rest := [.int v2]) hG d_M_errs_57 mi_M_isTold mv_M_isTold lk_M_380 ⟨rfl, rfl, Nat.le_of_ble_eq_true rfl⟩ cq_109 cc_10 (c_M_isTold hG zm5) rfl (Nat.le_trans (jcI jcN) (Nat.le_of_ble_eq_true rfl)) ?_
        refine J.aload_n 0 d_M_errs_60 rfl rfl ?_
        refine J.iload_n 3 d_M_errs_61 rfl rfl ?_
        refine J.iload 4 d_M_errs_62 rfl ?_
        refine J.nop (pc' := 64) rfl ?_
        obtain ⟨x6, m7, zm7, h⟩ := jbd_some h
        refine J.cVi Y_M_isBefore (As := [.int v3, .int v4]) (rest := [.int x4, .int v2]) hG d_M_errs_64 mi_M_isBefore mv_M_isBefore lk_M_350 ⟨rfl, rfl, Nat.le_of_ble_eq_true rfl⟩ cq_109 cc_10 (c_M_isBefore hG zm7) rfl (Nat.le_trans (jcI (jcI jcN)) (Nat.le_of_ble_eq_true rfl)) ?_
        refine J.icmp_eq 74 d_M_errs_67 rfl (fun c => ?_) (fun c => ?_)
        · rw [if_pos c] at h
          refine J.iconst (v := (0 : Int32)) d_M_errs_74 ki_0 ?_
          refine J.iadd d_M_errs_75 ?_
          refine J.istore_n (lv := [(2, .int (v2 + (0 : Int32))), (0, jr G 109), (1, .int v1), (3, .int v3), (4, .int v4)]) d_M_errs_76 rfl (by decide) rfl ?_
          refine J.iinc 4 (v := (1 : Int32)) (lv := [(4, .int (v4 + (1 : Int32))), (2, .int (v2 + (0 : Int32))), (0, jr G 109), (1, .int v1), (3, .int v3)]) d_M_errs_77 rfl ki_1 (by decide) rfl ?_
          refine J.goto 36 d_M_errs_80 rfl ?_
          exact J.sub (ls' := [(0, jr G 109), (1, .int v1), (2, .int (v2 + (0 : Int32))), (3, .int v3), (4, .int (v4 + (1 : Int32)))]) [2, 3, 1, 4, 0] rfl (ih (v2 + (0 : Int32)) (v4 + (1 : Int32)) m7 _ h)
        · rw [if_neg c] at h
          refine J.iconst (v := (1 : Int32)) d_M_errs_70 ki_1 ?_
          refine J.goto 75 d_M_errs_71 rfl ?_
          refine J.iadd d_M_errs_75 ?_
          refine J.istore_n (lv := [(2, .int (v2 + (1 : Int32))), (0, jr G 109), (1, .int v1), (3, .int v3), (4, .int v4)]) d_M_errs_76 rfl (by decide) rfl ?_
          refine J.iinc 4 (v := (1 : Int32)) (lv := [(4, .int (v4 + (1 : Int32))), (2, .int (v2 + (1 : Int32))), (0, jr G 109), (1, .int v1), (3, .int v3)]) d_M_errs_77 rfl ki_1 (by decide) rfl ?_
          refine J.goto 36 d_M_errs_80 rfl ?_
          exact J.sub (ls' := [(0, jr G 109), (1, .int v1), (2, .int (v2 + (1 : Int32))), (3, .int v3), (4, .int (v4 + (1 : Int32)))]) [2, 3, 1, 4, 0] rfl (ih (v2 + (1 : Int32)) (v4 + (1 : Int32)) m7 _ h)
theorem jlp_M_errs_25 {G : jG} (hG : jFul G) (v1 : Int32) (k89 : Int32 → jMem → Option (Int32 × jMem))
    (hk89 : ∀ (v2 : Int32) (m : jMem) (r : (Int32 × jMem)), k89 v2 m = some r → J G Y_M_errs 89 [(2, .int v2)] [] m (jri r)) : ∀ (n : Nat) (v2 : Int32) (v3 : Int32) (m : jMem) (r : (Int32 × jMem)), lp_M_errs_25 v1 k89 n v2 v3 m = some r → J G Y_M_errs 25 [(0, jr G 109), (1, .int v1), (2, .int v2), (3, .int v3)] [] m (jri r) := by
  intro n
  induction n with
  | zero => intro v2 v3 m r h; unfold lp_M_errs_25 at h; cases h
  | succ n ih =>
    intro v2 v3 m r h
    unfold lp_M_errs_25 at h
    refine J.iload_n 3 d_M_errs_25 rfl rfl ?_
    refine J.aload_n 0 d_M_errs_26 rfl rfl ?_
    refine J.getI hG d_M_errs_27 fl_M_277 ck_109_33 ?_
    refine J.icmp_ge 89 d_M_errs_30 rfl (fun c => ?_) (fun c => ?_)
    · rw [if_pos c] at h
      exact J.sub (ls' := [(2, .int v2)]) [2] rfl (hk89 v2 m _ h)
    · rw [if_neg c] at h
      refine J.iconst (v := (0 : Int32)) d_M_errs_33 ki_0 ?_
      refine J.istore (lv := [(4, .int (0 : Int32)), (0, jr G 109), (1, .int v1), (2, .int v2), (3, .int v3)]) d_M_errs_34 (by decide) rfl ?_
      refine J.sub (ls' := [(0, jr G 109), (1, .int v1), (2, .int v2), (3, .int v3), (4, .int (0 : Int32))]) [1, 2, 3, 4, 0] rfl ?_
      refine jlp_M_errs_36 hG v1 v3 _ ?_ _ v2 (0 : Int32) m _ h
      intro w9 m8 r h
      refine J.iinc 3 (v := (1 : Int32)) (lv := [(3, .int (v3 + (1 : Int32))), (0, jr G 109), (1, .int v1), (2, .int w9)]) d_M_errs_83 rfl ki_1 (by decide) rfl ?_
      refine J.goto 25 d_M_errs_86 rfl ?_
      exact J.sub (ls' := [(0, jr G 109), (1, .int v1), (2, .int w9), (3, .int (v3 + (1 : Int32)))]) [1, 2, 3, 0] rfl (ih w9 (v3 + (1 : Int32)) m8 _ h)
theorem c_M_errs {G : jG} (hG : jFul G) {v1 : Int32} {m : jMem} {r : (Int32 × jMem)} (h : f_M_errs v1 m = some r) : jCt G Y_M_errs [jr G 109, .int v1] m (jri r) := by
  refine jCt.ov (ls := [(0, jr G 109), (1, .int v1)]) mi_M_errs (jAvR (jAvI jAvN)) (Nat.le_of_ble_eq_true rfl) ?_ ⟨rfl, rfl⟩
  unfold f_M_errs at h
  refine J.aload_n 0 d_M_errs_0 rfl rfl ?_
  refine J.iconst (v := (0 : Int32)) d_M_errs_1 ki_0 ?_
  obtain ⟨m1, hm1, h⟩ := jpu_some h
  refine J.putI hG d_M_errs_2 fl_M_132 fp_10_0 ck_109_0 hm1 ?_
  refine J.iload_n 1 d_M_errs_5 rfl rfl ?_
  refine J.if_lt 14 d_M_errs_6 rfl (fun c => ?_) (fun c => ?_)
  · rw [if_pos c] at h
    refine J.iconst (v := (-1 : Int32)) d_M_errs_14 ki_m1 ?_
    cases h
    exact J.iret d_M_errs_15 rfl (vp_nar_int _) rfl
  · rw [if_neg c] at h
    refine J.iload_n 1 d_M_errs_9 rfl rfl ?_
    refine J.iconst (v := (3 : Int32)) d_M_errs_10 ki_3 ?_
    refine J.icmp_le 16 d_M_errs_11 rfl (fun c => ?_) (fun c => ?_)
    · rw [if_pos c] at h
      refine J.aload_n 0 d_M_errs_16 rfl rfl ?_
      refine J.iload_n 1 d_M_errs_17 rfl rfl ?_
      obtain ⟨u2, m3, zm3, h⟩ := jbd_some h
      refine J.cVv Y_M_bears (As := [.int v1]) (rest := []) hG d_M_errs_18 mi_M_bears mv_M_bears lk_M_377 ⟨rfl, rfl, Nat.le_of_ble_eq_true rfl⟩ cq_109 cc_10 (c_M_bears hG zm3) rfl (Nat.le_trans jcN (Nat.le_of_ble_eq_true rfl)) ?_
      refine J.iconst (v := (0 : Int32)) d_M_errs_21 ki_0 ?_
      refine J.istore_n (lv := [(2, .int (0 : Int32)), (0, jr G 109), (1, .int v1)]) d_M_errs_22 rfl (by decide) rfl ?_
      refine J.iconst (v := (0 : Int32)) d_M_errs_23 ki_0 ?_
      refine J.istore_n (lv := [(3, .int (0 : Int32)), (2, .int (0 : Int32)), (0, jr G 109), (1, .int v1)]) d_M_errs_24 rfl (by decide) rfl ?_
      refine J.sub (ls' := [(0, jr G 109), (1, .int v1), (2, .int (0 : Int32)), (3, .int (0 : Int32))]) [2, 3, 1, 0] rfl ?_
      refine jlp_M_errs_25 hG v1 _ ?_ _ (0 : Int32) (0 : Int32) m3 _ h
      intro w11 m10 r h
      refine J.iload_n 0 d_M_errs_89 rfl rfl ?_
      cases h
      exact J.iret d_M_errs_90 rfl (vp_nar_int _) rfl
    · rw [if_neg c] at h
      refine J.nop (pc' := 14) rfl ?_
      refine J.iconst (v := (-1 : Int32)) d_M_errs_14 ki_m1 ?_
      cases h
      exact J.iret d_M_errs_15 rfl (vp_nar_int _) rfl

def f_M_isSet (v1 : Int32) (m : jMem) : Option (Int32 × jMem) :=
  if v1 < 0 then
    some ((0 : Int32), m)
  else
    if ((1 : Int32) <<< ((m 109 33) &&& 31)) ≤ v1 then
      some ((0 : Int32), m)
    else
      some ((1 : Int32), m)
theorem c_M_isSet {G : jG} (hG : jFul G) {v1 : Int32} {m : jMem} {r : (Int32 × jMem)} (h : f_M_isSet v1 m = some r) : jCt G Y_M_isSet [jr G 109, .int v1] m (jri r) := by
  refine jCt.ov (ls := [(0, jr G 109), (1, .int v1)]) mi_M_isSet (jAvR (jAvI jAvN)) (Nat.le_of_ble_eq_true rfl) ?_ ⟨rfl, rfl⟩
  unfold f_M_isSet at h
  refine J.iload_n 1 d_M_isSet_0 rfl rfl ?_
  refine J.if_lt 18 d_M_isSet_1 rfl (fun c => ?_) (fun c => ?_)
  · rw [if_pos c] at h
    refine J.iconst (v := (0 : Int32)) d_M_isSet_18 ki_0 ?_
    cases h
    exact J.iret d_M_isSet_19 rfl rfl rfl
  · rw [if_neg c] at h
    refine J.iload_n 1 d_M_isSet_4 rfl rfl ?_
    refine J.iconst (v := (1 : Int32)) d_M_isSet_5 ki_1 ?_
    refine J.aload_n 0 d_M_isSet_6 rfl rfl ?_
    refine J.getI hG d_M_isSet_7 fl_M_277 ck_109_33 ?_
    refine J.ishl d_M_isSet_10 ?_
    refine J.icmp_ge 18 d_M_isSet_11 rfl (fun c => ?_) (fun c => ?_)
    · rw [if_pos c] at h
      refine J.iconst (v := (0 : Int32)) d_M_isSet_18 ki_0 ?_
      cases h
      exact J.iret d_M_isSet_19 rfl rfl rfl
    · rw [if_neg c] at h
      refine J.nop (pc' := 14) rfl ?_
      refine J.iconst (v := (1 : Int32)) d_M_isSet_14 ki_1 ?_
      refine J.goto 19 d_M_isSet_15 rfl ?_
      cases h
      exact J.iret d_M_isSet_19 rfl rfl rfl

def lp_M_joins_4 (ff : Int32 → Int32 → jMem → Option (Int32 × jMem)) (v1 : Int32) (v2 : Int32) (k83 : Int32 → jMem → Option (Int32 × jMem)) (k98 : jMem → Option (Int32 × jMem)) : Nat → Int32 → jMem → Option (Int32 × jMem)
  | 0, _, _ => none
  | n + 1, v3, m =>
    if (m 109 33) ≤ v3 then
      k98 m
    else
      if ((v2 >>> (v3 &&& 31)) &&& (1 : Int32)) = 0 then
        lp_M_joins_4 ff v1 v2 k83 k98 n (v3 + (1 : Int32)) m
      else
        jbd (f_M_isBefore v1 v3 m) fun x1 m2 =>
        if x1 = 0 then
          lp_M_joins_4 ff v1 v2 k83 k98 n (v3 + (1 : Int32)) m2
        else
          if (((m2 109 62) >>> (v3 &&& 31)) &&& (1 : Int32)) = (1 : Int32) then
            lp_M_joins_4 ff v1 v2 k83 k98 n (v3 + (1 : Int32)) m2
          else
            jpu m2 109 62 ((m2 109 62) ||| ((1 : Int32) <<< (v3 &&& 31))) fun m3 =>
            jld 1 m3 142 v3 fun x4 =>
            if x4 = (-1 : Int32) then
              k83 v3 m3
            else
              jld 1 m3 142 v3 fun x5 =>
              jbd (ff x5 v2 m3) fun x6 m7 =>
              if x6 = 0 then
                lp_M_joins_4 ff v1 v2 k83 k98 n (v3 + (1 : Int32)) m7
              else
                k83 v3 m7
def f_M_joins : Nat → Int32 → Int32 → jMem → Option (Int32 × jMem)
  | 0, _, _, _ => none
  | dd + 1, v1, v2, m =>
    lp_M_joins_4 (f_M_joins dd) v1 v2 (fun w9 m8 =>
      jst 1 m8 142 w9 v1 fun m10 =>
      some ((1 : Int32), m10)) (fun m11 =>
      some ((0 : Int32), m11)) 5000 (v1 + (1 : Int32)) m
theorem jlp_M_joins_4 {G : jG} (hG : jFul G) {dd : Nat} {ff : Int32 → Int32 → jMem → Option (Int32 × jMem)} (ihd : ∀ {a b : Int32} {m : jMem} {r : (Int32 × jMem)}, ff a b m = some r → jCt G (Y_M_joins dd) [jr G 109, .int a, .int b] m (jri r)) (v1 : Int32) (v2 : Int32) (k83 : Int32 → jMem → Option (Int32 × jMem)) (k98 : jMem → Option (Int32 × jMem))
    (hk83 : ∀ (v3 : Int32) (m : jMem) (r : (Int32 × jMem)), k83 v3 m = some r → J G (Y_M_joins (dd + 1)) 83 [(0, jr G 109), (1, .int v1), (3, .int v3)] [] m (jri r))
    (hk98 : ∀ (m : jMem) (r : (Int32 × jMem)), k98 m = some r → J G (Y_M_joins (dd + 1)) 98 [] [] m (jri r)) : ∀ (n : Nat) (v3 : Int32) (m : jMem) (r : (Int32 × jMem)), lp_M_joins_4 ff v1 v2 k83 k98 n v3 m = some r → J G (Y_M_joins (dd + 1)) 4 [(0, jr G 109), (1, .int v1), (2, .int v2), (3, .int v3)] [] m (jri r) := by
  intro n
  induction n with
  | zero => intro v3 m r h; unfold lp_M_joins_4 at h; cases h
  | succ n ih =>
    intro v3 m r h
    unfold lp_M_joins_4 at h
    refine J.iload_n 3 d_M_joins_4 rfl rfl ?_
    refine J.aload_n 0 d_M_joins_5 rfl rfl ?_
    refine J.getI hG d_M_joins_6 fl_M_277 ck_109_33 ?_
    refine J.icmp_ge 98 d_M_joins_9 rfl (fun c => ?_) (fun c => ?_)
    · rw [if_pos c] at h
      exact J.sub (ls' := []) [] rfl (hk98  m _ h)
    · rw [if_neg c] at h
      refine J.iload_n 2 d_M_joins_12 rfl rfl ?_
      refine J.iload_n 3 d_M_joins_13 rfl rfl ?_
      refine J.ishr d_M_joins_14 ?_
      refine J.iconst (v := (1 : Int32)) d_M_joins_15 ki_1 ?_
      refine J.nop (pc' := 16) rfl ?_
      refine J.iand d_M_joins_16 ?_
      refine J.if_eq 92 d_M_joins_17 rfl (fun c => ?_) (fun c => ?_)
      · rw [if_pos c] at h
        refine J.iinc 3 (v := (1 : Int32)) (lv := [(3, .int (v3 + (1 : Int32))), (0, jr G 109), (1, .int v1), (2, .int v2)]) d_M_joins_92 rfl ki_1 (show (3 : Nat) < 4 by decide) rfl ?_
        refine J.goto 4 d_M_joins_95 rfl ?_
        exact J.sub (ls' := [(0, jr G 109), (1, .int v1), (2, .int v2), (3, .int (v3 + (1 : Int32)))]) [1, 2, 3, 0] rfl (ih (v3 + (1 : Int32)) m _ h)
      · rw [if_neg c] at h
        refine J.aload_n 0 d_M_joins_20 rfl rfl ?_
        refine J.iload_n 1 d_M_joins_21 rfl rfl ?_
        refine J.iload_n 3 d_M_joins_22 rfl rfl ?_
        obtain ⟨x1, m2, zm2, h⟩ := jbd_some h
        refine J.cVi Y_M_isBefore (As := [.int v1, .int v3]) (rest := []) hG d_M_joins_23 mi_M_isBefore mv_M_isBefore lk_M_350 ⟨rfl, rfl, by show 1 + 1 ≤ 2 + (dd + 1); omega⟩ cq_109 cc_10 (c_M_isBefore hG zm2) rfl (Nat.le_trans jcN (Nat.le_of_ble_eq_true rfl)) ?_
        refine J.if_eq 92 d_M_joins_26 rfl (fun c => ?_) (fun c => ?_)
        · rw [if_pos c] at h
          refine J.iinc 3 (v := (1 : Int32)) (lv := [(3, .int (v3 + (1 : Int32))), (0, jr G 109), (1, .int v1), (2, .int v2)]) d_M_joins_92 rfl ki_1 (show (3 : Nat) < 4 by decide) rfl ?_
          refine J.goto 4 d_M_joins_95 rfl ?_
          exact J.sub (ls' := [(0, jr G 109), (1, .int v1), (2, .int v2), (3, .int (v3 + (1 : Int32)))]) [1, 2, 3, 0] rfl (ih (v3 + (1 : Int32)) m2 _ h)
        · rw [if_neg c] at h
          refine J.aload_n 0 d_M_joins_29 rfl rfl ?_
          refine J.nop (pc' := 30) rfl ?_
          refine J.getI hG d_M_joins_30 fl_M_387 ck_109_62 ?_
          refine J.iload_n 3 d_M_joins_33 rfl rfl ?_
          refine J.ishr d_M_joins_34 ?_
          refine J.iconst (v := (1 : Int32)) d_M_joins_35 ki_1 ?_
          refine J.iand d_M_joins_36 ?_
          refine J.iconst (v := (1 : Int32)) d_M_joins_37 ki_1 ?_
          refine J.icmp_ne 44 d_M_joins_38 rfl (fun c => ?_) (fun c => ?_)
          · rw [if_neg c] at h
            refine J.aload_n 0 d_M_joins_44 rfl rfl ?_
            refine J.dup d_M_joins_45 (jr_cat _ _) ?_
            refine J.getI hG d_M_joins_46 fl_M_387 ck_109_62 ?_
            refine J.iconst (v := (1 : Int32)) d_M_joins_49 ki_1 ?_
            refine J.iload_n 3 d_M_joins_50 rfl rfl ?_
            refine J.ishl d_M_joins_51 ?_
            refine J.ior d_M_joins_52 ?_
            obtain ⟨m3, hm3, h⟩ := jpu_some h
            refine J.putI hG d_M_joins_53 fl_M_387 fp_10_62 ck_109_62 hm3 ?_
            refine J.nop (pc' := 56) rfl ?_
            refine J.aload_n 0 d_M_joins_56 rfl rfl ?_
            refine J.getF (n := 142) hG d_M_joins_57 fl_M_111 ck_109_61 rfl ?_
            refine J.iload_n 3 d_M_joins_60 rfl rfl ?_
            obtain ⟨x4, ex4, g, h⟩ := jld_some h
            refine J.il hG d_M_joins_61 g ex4 ?_
            refine J.iconst (v := (-1 : Int32)) d_M_joins_62 ki_m1 ?_
            refine J.icmp_eq 83 d_M_joins_63 rfl (fun c => ?_) (fun c => ?_)
            · rw [if_pos c] at h
              exact J.sub (ls' := [(0, jr G 109), (1, .int v1), (3, .int v3)]) [0, 1, 3] rfl (hk83 v3 m3 _ h)
            · rw [if_neg c] at h
              refine J.aload_n 0 d_M_joins_66 rfl rfl ?_
              refine J.aload_n 0 d_M_joins_67 rfl rfl ?_
              refine J.nop (pc' := 68) rfl ?_
              refine J.getF (n := 142) hG d_M_joins_68 fl_M_111 ck_109_61 rfl ?_
              refine J.iload_n 3 d_M_joins_71 rfl rfl ?_
              obtain ⟨x5, ex5, g, h⟩ := jld_some h
              refine J.il hG d_M_joins_72 g ex5 ?_
              refine J.iload_n 2 d_M_joins_73 rfl rfl ?_
              obtain ⟨x6, m7, zm7, h⟩ := jbd_some h
              refine J.cVi (Y_M_joins dd) (As := [.int x5, .int v2]) (rest := []) hG d_M_joins_74 mi_M_joins mv_M_joins lk_M_390 ⟨rfl, rfl, Nat.le_refl _⟩ cq_109 cc_10 (ihd zm7) rfl (Nat.le_trans jcN (Nat.le_of_ble_eq_true rfl)) ?_
              refine J.if_ne 83 d_M_joins_77 rfl (fun c => ?_) (fun c => ?_)
              · rw [if_neg c] at h
                exact J.sub (ls' := [(0, jr G 109), (1, .int v1), (3, .int v3)]) [0, 1, 3] rfl (hk83 v3 m7 _ h)
              · rw [if_pos c] at h
                refine J.goto 92 d_M_joins_80 rfl ?_
                refine J.iinc 3 (v := (1 : Int32)) (lv := [(3, .int (v3 + (1 : Int32))), (0, jr G 109), (1, .int v1), (2, .int v2)]) d_M_joins_92 rfl ki_1 (show (3 : Nat) < 4 by decide) rfl ?_
                refine J.goto 4 d_M_joins_95 rfl ?_
                exact J.sub (ls' := [(0, jr G 109), (1, .int v1), (2, .int v2), (3, .int (v3 + (1 : Int32)))]) [1, 2, 3, 0] rfl (ih (v3 + (1 : Int32)) m7 _ h)
          · rw [if_pos c] at h
            refine J.goto 92 d_M_joins_41 rfl ?_
            refine J.iinc 3 (v := (1 : Int32)) (lv := [(3, .int (v3 + (1 : Int32))), (0, jr G 109), (1, .int v1), (2, .int v2)]) d_M_joins_92 rfl ki_1 (show (3 : Nat) < 4 by decide) rfl ?_
            refine J.goto 4 d_M_joins_95 rfl ?_
            exact J.sub (ls' := [(0, jr G 109), (1, .int v1), (2, .int v2), (3, .int (v3 + (1 : Int32)))]) [1, 2, 3, 0] rfl (ih (v3 + (1 : Int32)) m2 _ h)
theorem c_M_joins {G : jG} (hG : jFul G) : ∀ (dd : Nat) {v1 : Int32} {v2 : Int32} {m : jMem} {r : (Int32 × jMem)}, f_M_joins dd v1 v2 m = some r → jCt G (Y_M_joins dd) [jr G 109, .int v1, .int v2] m (jri r) := by
  intro dd
  induction dd with
  | zero => intro v1 v2 m r h; unfold f_M_joins at h; cases h
  | succ dd ihd =>
    intro v1 v2 m r h
    refine jCt.ov (ls := [(0, jr G 109), (1, .int v1), (2, .int v2)]) mi_M_joins (jAvR (jAvI (jAvI jAvN))) (Nat.le_of_ble_eq_true rfl) ?_ ⟨rfl, rfl⟩
    unfold f_M_joins at h
    refine J.iload_n 1 d_M_joins_0 rfl rfl ?_
    refine J.iconst (v := (1 : Int32)) d_M_joins_1 ki_1 ?_
    refine J.iadd d_M_joins_2 ?_
    refine J.istore_n (lv := [(3, .int (v1 + (1 : Int32))), (0, jr G 109), (1, .int v1), (2, .int v2)]) d_M_joins_3 rfl (show (3 : Nat) < 4 by decide) rfl ?_
    refine J.sub (ls' := [(0, jr G 109), (1, .int v1), (2, .int v2), (3, .int (v1 + (1 : Int32)))]) [1, 2, 3, 0] rfl ?_
    refine jlp_M_joins_4 hG ihd v1 v2 _ _ ?_ ?_ _ (v1 + (1 : Int32)) m _ h
    · intro w9 m8 r h
      refine J.aload_n 0 d_M_joins_83 rfl rfl ?_
      refine J.getF (n := 142) hG d_M_joins_84 fl_M_111 ck_109_61 rfl ?_
      refine J.iload_n 2 d_M_joins_87 rfl rfl ?_
      refine J.iload_n 1 d_M_joins_88 rfl rfl ?_
      obtain ⟨m10, hm10, g, h⟩ := jst_some h
      refine J.is hG d_M_joins_89 g hm10 ?_
      refine J.iconst (v := (1 : Int32)) d_M_joins_90 ki_1 ?_
      cases h
      exact J.iret d_M_joins_91 rfl rfl rfl
    · intro m11 r h
      refine J.iconst (v := (0 : Int32)) d_M_joins_98 ki_0 ?_
      cases h
      exact J.iret d_M_joins_99 rfl rfl rfl

def lp_M_chains_17 (v1 : Int32) (k38 : jMem → Option (Int32 × jMem)) : Nat → Int32 → jMem → Option (Int32 × jMem)
  | 0, _, _ => none
  | n + 1, v2, m =>
    if (m 109 33) ≤ v2 then
      k38 m
    else
      jst 1 m 142 v2 (-1 : Int32) fun m4 =>
      lp_M_chains_17 v1 k38 n (v2 + (1 : Int32)) m4
def lp_M_chains_45 (v1 : Int32) (k85 : Int32 → jMem → Option (Int32 × jMem)) : Nat → Int32 → Int32 → jMem → Option (Int32 × jMem)
  | 0, _, _, _ => none
  | n + 1, v2, v3, m =>
    if (m 109 33) ≤ v3 then
      k85 v2 m
    else
      jpu m 109 62 (0 : Int32) fun m8 =>
      if ((v1 >>> (v3 &&& 31)) &&& (1 : Int32)) = (1 : Int32) then
        jbd (f_M_joins 40 v3 v1 m8) fun x9 m10 =>
        if x9 = 0 then
          lp_M_chains_45 v1 k85 n v2 (v3 + (1 : Int32)) m10
        else
          lp_M_chains_45 v1 k85 n (v2 + (-1 : Int32)) (v3 + (1 : Int32)) m10
      else
        lp_M_chains_45 v1 k85 n v2 (v3 + (1 : Int32)) m8
def f_M_chains (v1 : Int32) (m : jMem) : Option (Int32 × jMem) :=
  jpu m 109 0 (0 : Int32) fun m1 =>
  jbd (f_M_isSet v1 m1) fun x2 m3 =>
  if x2 = 0 then
    some ((-1 : Int32), m3)
  else
    lp_M_chains_17 v1 (fun m5 =>
      jbd (f_M_bits v1 m5) fun x6 m7 =>
      lp_M_chains_45 v1 (fun w12 m11 =>
        some (w12, m11)) 5000 x6 (0 : Int32) m7) 5000 (0 : Int32) m3
theorem jlp_M_chains_17 {G : jG} (hG : jFul G) (v1 : Int32) (k38 : jMem → Option (Int32 × jMem))
    (hk38 : ∀ (m : jMem) (r : (Int32 × jMem)), k38 m = some r → J G Y_M_chains 38 [(0, jr G 109), (1, .int v1)] [] m (jri r)) : ∀ (n : Nat) (v2 : Int32) (m : jMem) (r : (Int32 × jMem)), lp_M_chains_17 v1 k38 n v2 m = some r → J G Y_M_chains 17 [(0, jr G 109), (1, .int v1), (2, .int v2)] [] m (jri r) := by
  intro n
  induction n with
  | zero => intro v2 m r h; unfold lp_M_chains_17 at h; cases h
  | succ n ih =>
    intro v2 m r h
    unfold lp_M_chains_17 at h
    refine J.iload_n 2 d_M_chains_17 rfl rfl ?_
    refine J.aload_n 0 d_M_chains_18 rfl rfl ?_
    refine J.getI hG d_M_chains_19 fl_M_277 ck_109_33 ?_
    refine J.icmp_ge 38 d_M_chains_22 rfl (fun c => ?_) (fun c => ?_)
    · rw [if_pos c] at h
      exact J.sub (ls' := [(0, jr G 109), (1, .int v1)]) [0, 1] rfl (hk38  m _ h)
    · rw [if_neg c] at h
      refine J.aload_n 0 d_M_chains_25 rfl rfl ?_
      refine J.getF (n := 142) hG d_M_chains_26 fl_M_111 ck_109_61 rfl ?_
      refine J.iload_n 2 d_M_chains_29 rfl rfl ?_
      refine J.iconst (v := (-1 : Int32)) d_M_chains_30 ki_m1 ?_
      refine J.nop (pc' := 31) rfl ?_
      obtain ⟨m4, hm4, g, h⟩ := jst_some h
      refine J.is hG d_M_chains_31 g hm4 ?_
      refine J.iinc 2 (v := (1 : Int32)) (lv := [(2, .int (v2 + (1 : Int32))), (0, jr G 109), (1, .int v1)]) d_M_chains_32 rfl ki_1 (by decide) rfl ?_
      refine J.goto 17 d_M_chains_35 rfl ?_
      exact J.sub (ls' := [(0, jr G 109), (1, .int v1), (2, .int (v2 + (1 : Int32)))]) [1, 2, 0] rfl (ih (v2 + (1 : Int32)) m4 _ h)
theorem jlp_M_chains_45 {G : jG} (hG : jFul G) (v1 : Int32) (k85 : Int32 → jMem → Option (Int32 × jMem))
    (hk85 : ∀ (v2 : Int32) (m : jMem) (r : (Int32 × jMem)), k85 v2 m = some r → J G Y_M_chains 85 [(2, .int v2)] [] m (jri r)) : ∀ (n : Nat) (v2 : Int32) (v3 : Int32) (m : jMem) (r : (Int32 × jMem)), lp_M_chains_45 v1 k85 n v2 v3 m = some r → J G Y_M_chains 45 [(0, jr G 109), (1, .int v1), (2, .int v2), (3, .int v3)] [] m (jri r) := by
  intro n
  induction n with
  | zero => intro v2 v3 m r h; unfold lp_M_chains_45 at h; cases h
  | succ n ih =>
    intro v2 v3 m r h
    unfold lp_M_chains_45 at h
    refine J.iload_n 3 d_M_chains_45 rfl rfl ?_
    refine J.aload_n 0 d_M_chains_46 rfl rfl ?_
    refine J.getI hG d_M_chains_47 fl_M_277 ck_109_33 ?_
    refine J.icmp_ge 85 d_M_chains_50 rfl (fun c => ?_) (fun c => ?_)
    · rw [if_pos c] at h
      exact J.sub (ls' := [(2, .int v2)]) [2] rfl (hk85 v2 m _ h)
    · rw [if_neg c] at h
      refine J.aload_n 0 d_M_chains_53 rfl rfl ?_
      refine J.iconst (v := (0 : Int32)) d_M_chains_54 ki_0 ?_
      obtain ⟨m8, hm8, h⟩ := jpu_some h
      refine J.putI hG d_M_chains_55 fl_M_387 fp_10_62 ck_109_62 hm8 ?_
      refine J.iload_n 1 d_M_chains_58 rfl rfl ?_
      refine J.nop (pc' := 59) rfl ?_
      refine J.iload_n 3 d_M_chains_59 rfl rfl ?_
      refine J.ishr d_M_chains_60 ?_
      refine J.iconst (v := (1 : Int32)) d_M_chains_61 ki_1 ?_
      refine J.iand d_M_chains_62 ?_
      refine J.iconst (v := (1 : Int32)) d_M_chains_63 ki_1 ?_
      refine J.icmp_ne 79 d_M_chains_64 rfl (fun c => ?_) (fun c => ?_)
      · rw [if_neg c] at h
        refine J.iinc 3 (v := (1 : Int32)) (lv := [(3, .int (v3 + (1 : Int32))), (0, jr G 109), (1, .int v1), (2, .int v2)]) d_M_chains_79 rfl ki_1 (by decide) rfl ?_
        refine J.goto 45 d_M_chains_82 rfl ?_
        exact J.sub (ls' := [(0, jr G 109), (1, .int v1), (2, .int v2), (3, .int (v3 + (1 : Int32)))]) [1, 2, 3, 0] rfl (ih v2 (v3 + (1 : Int32)) m8 _ h)
      · rw [if_pos c] at h
        refine J.aload_n 0 d_M_chains_67 rfl rfl ?_
        refine J.iload_n 3 d_M_chains_68 rfl rfl ?_
        refine J.nop (pc' := 69) rfl ?_
        refine J.iload_n 1 d_M_chains_69 rfl rfl ?_
        obtain ⟨x9, m10, zm10, h⟩ := jbd_some h
        refine J.cVi (Y_M_joins 40) (As := [.int v3, .int v1]) (rest := []) hG d_M_chains_70 mi_M_joins mv_M_joins lk_M_390 ⟨rfl, rfl, Nat.le_of_ble_eq_true rfl⟩ cq_109 cc_10 (c_M_joins hG 40 zm10) rfl (Nat.le_trans jcN (Nat.le_of_ble_eq_true rfl)) ?_
        refine J.if_eq 79 d_M_chains_73 rfl (fun c => ?_) (fun c => ?_)
        · rw [if_pos c] at h
          refine J.iinc 3 (v := (1 : Int32)) (lv := [(3, .int (v3 + (1 : Int32))), (0, jr G 109), (1, .int v1), (2, .int v2)]) d_M_chains_79 rfl ki_1 (by decide) rfl ?_
          refine J.goto 45 d_M_chains_82 rfl ?_
          exact J.sub (ls' := [(0, jr G 109), (1, .int v1), (2, .int v2), (3, .int (v3 + (1 : Int32)))]) [1, 2, 3, 0] rfl (ih v2 (v3 + (1 : Int32)) m10 _ h)
        · rw [if_neg c] at h
          refine J.iinc 2 (v := (-1 : Int32)) (lv := [(2, .int (v2 + (-1 : Int32))), (0, jr G 109), (1, .int v1), (3, .int v3)]) d_M_chains_76 rfl ki_m1 (by decide) rfl ?_
          refine J.iinc 3 (v := (1 : Int32)) (lv := [(3, .int (v3 + (1 : Int32))), (2, .int (v2 + (-1 : Int32))), (0, jr G 109), (1, .int v1)]) d_M_chains_79 rfl ki_1 (by decide) rfl ?_
          refine J.goto 45 d_M_chains_82 rfl ?_
          exact J.sub (ls' := [(0, jr G 109), (1, .int v1), (2, .int (v2 + (-1 : Int32))), (3, .int (v3 + (1 : Int32)))]) [2, 3, 1, 0] rfl (ih (v2 + (-1 : Int32)) (v3 + (1 : Int32)) m10 _ h)
theorem c_M_chains {G : jG} (hG : jFul G) {v1 : Int32} {m : jMem} {r : (Int32 × jMem)} (h : f_M_chains v1 m = some r) : jCt G Y_M_chains [jr G 109, .int v1] m (jri r) := by
  refine jCt.ov (ls := [(0, jr G 109), (1, .int v1)]) mi_M_chains (jAvR (jAvI jAvN)) (Nat.le_of_ble_eq_true rfl) ?_ ⟨rfl, rfl⟩
  unfold f_M_chains at h
  refine J.aload_n 0 d_M_chains_0 rfl rfl ?_
  refine J.iconst (v := (0 : Int32)) d_M_chains_1 ki_0 ?_
  obtain ⟨m1, hm1, h⟩ := jpu_some h
  refine J.putI hG d_M_chains_2 fl_M_132 fp_10_0 ck_109_0 hm1 ?_
  refine J.aload_n 0 d_M_chains_5 rfl rfl ?_
  refine J.iload_n 1 d_M_chains_6 rfl rfl ?_
  obtain ⟨x2, m3, zm3, h⟩ := jbd_some h
  refine J.cVi Y_M_isSet (As := [.int v1]) (rest := []) hG d_M_chains_7 mi_M_isSet mv_M_isSet lk_M_384 ⟨rfl, rfl, Nat.le_of_ble_eq_true rfl⟩ cq_109 cc_10 (c_M_isSet hG zm3) rfl (Nat.le_trans jcN (Nat.le_of_ble_eq_true rfl)) ?_
  refine J.if_ne 15 d_M_chains_10 rfl (fun c => ?_) (fun c => ?_)
  · rw [if_neg c] at h
    refine J.iconst (v := (0 : Int32)) d_M_chains_15 ki_0 ?_
    refine J.istore_n (lv := [(2, .int (0 : Int32)), (0, jr G 109), (1, .int v1)]) d_M_chains_16 rfl (by decide) rfl ?_
    refine J.sub (ls' := [(0, jr G 109), (1, .int v1), (2, .int (0 : Int32))]) [1, 2, 0] rfl ?_
    refine jlp_M_chains_17 hG v1 _ ?_ _ (0 : Int32) m3 _ h
    intro m5 r h
    refine J.iload_n 1 d_M_chains_38 rfl rfl ?_
    obtain ⟨x6, m7, zm7, h⟩ := jbd_some h
    refine J.cSi Y_M_bits (As := [.int v1]) (rest := []) d_M_chains_39 mi_M_bits ms_M_bits lk_M_306 ⟨rfl, rfl, Nat.le_of_ble_eq_true rfl⟩ (c_M_bits hG zm7) rfl (Nat.le_trans jcN (Nat.le_of_ble_eq_true rfl)) ?_
    refine J.istore_n (lv := [(2, .int x6), (0, jr G 109), (1, .int v1)]) d_M_chains_42 rfl (by decide) rfl ?_
    refine J.iconst (v := (0 : Int32)) d_M_chains_43 ki_0 ?_
    refine J.istore_n (lv := [(3, .int (0 : Int32)), (2, .int x6), (0, jr G 109), (1, .int v1)]) d_M_chains_44 rfl (by decide) rfl ?_
    refine J.sub (ls' := [(0, jr G 109), (1, .int v1), (2, .int x6), (3, .int (0 : Int32))]) [2, 3, 1, 0] rfl ?_
    refine jlp_M_chains_45 hG v1 _ ?_ _ x6 (0 : Int32) m7 _ h
    intro w12 m11 r h
    refine J.iload_n 0 d_M_chains_85 rfl rfl ?_
    cases h
    exact J.iret d_M_chains_86 rfl (vp_nar_int _) rfl
  · rw [if_pos c] at h
    refine J.iconst (v := (-1 : Int32)) d_M_chains_13 ki_m1 ?_
    refine J.nop (pc' := 14) rfl ?_
    cases h
    exact J.iret d_M_chains_14 rfl (vp_nar_int _) rfl

def f_M_waits (v1 : Int32) (v2 : Int32) (m : jMem) : Option (Int32 × jMem) :=
  jpu m 109 0 (0 : Int32) fun m1 =>
  jbd (f_M_isWriter v1 m1) fun x2 m3 =>
  if x2 = 0 then
    some ((-1 : Int32), m3)
  else
    jbd (f_M_deskPlace v1 v2 m3) fun x4 m5 =>
    if x4 = (-1 : Int32) then
      some ((-1 : Int32), m5)
    else
      jbd (f_M_waitsFor v1 v2 m5) fun x6 m7 =>
      some (x6, m7)
theorem c_M_waits {G : jG} (hG : jFul G) {v1 : Int32} {v2 : Int32} {m : jMem} {r : (Int32 × jMem)} (h : f_M_waits v1 v2 m = some r) : jCt G Y_M_waits [jr G 109, .int v1, .int v2] m (jri r) := by
  refine jCt.ov (ls := [(0, jr G 109), (1, .int v1), (2, .int v2)]) mi_M_waits (jAvR (jAvI (jAvI jAvN))) (Nat.le_of_ble_eq_true rfl) ?_ ⟨rfl, rfl⟩
  unfold f_M_waits at h
  refine J.aload_n 0 d_M_waits_0 rfl rfl ?_
  refine J.iconst (v := (0 : Int32)) d_M_waits_1 ki_0 ?_
  obtain ⟨m1, hm1, h⟩ := jpu_some h
  refine J.putI hG d_M_waits_2 fl_M_132 fp_10_0 ck_109_0 hm1 ?_
  refine J.iload_n 1 d_M_waits_5 rfl rfl ?_
  obtain ⟨x2, m3, zm3, h⟩ := jbd_some h
  refine J.cSi Y_M_isWriter (As := [.int v1]) (rest := []) d_M_waits_6 mi_M_isWriter ms_M_isWriter lk_M_280 ⟨rfl, rfl, Nat.le_of_ble_eq_true rfl⟩ (c_M_isWriter hG zm3) rfl (Nat.le_trans jcN (Nat.le_of_ble_eq_true rfl)) ?_
  refine J.if_eq 22 d_M_waits_9 rfl (fun c => ?_) (fun c => ?_)
  · rw [if_pos c] at h
    refine J.iconst (v := (-1 : Int32)) d_M_waits_22 ki_m1 ?_
    refine J.goto 32 d_M_waits_23 rfl ?_
    cases h
    exact J.iret d_M_waits_32 rfl (vp_nar_int _) rfl
  · rw [if_neg c] at h
    refine J.aload_n 0 d_M_waits_12 rfl rfl ?_
    refine J.iload_n 1 d_M_waits_13 rfl rfl ?_
    refine J.nop (pc' := 14) rfl ?_
    refine J.iload_n 2 d_M_waits_14 rfl rfl ?_
    obtain ⟨x4, m5, zm5, h⟩ := jbd_some h
    refine J.cVi Y_M_deskPlace (As := [.int v1, .int v2]) (rest := []) hG d_M_waits_15 mi_M_deskPlace mv_M_deskPlace lk_M_326 ⟨rfl, rfl, Nat.le_of_ble_eq_true rfl⟩ cq_109 cc_10 (c_M_deskPlace hG zm5) rfl (Nat.le_trans jcN (Nat.le_of_ble_eq_true rfl)) ?_
    refine J.iconst (v := (-1 : Int32)) d_M_waits_18 ki_m1 ?_
    refine J.icmp_ne 26 d_M_waits_19 rfl (fun c => ?_) (fun c => ?_)
    · rw [if_neg c] at h
      refine J.aload_n 0 d_M_waits_26 rfl rfl ?_
      refine J.iload_n 1 d_M_waits_27 rfl rfl ?_
      refine J.iload_n 2 d_M_waits_28 rfl rfl ?_
      obtain ⟨x6, m7, zm7, h⟩ := jbd_some h
      refine J.cVi Y_M_waitsFor (As := [.int v1, .int v2]) (rest := []) hG d_M_waits_29 mi_M_waitsFor mv_M_waitsFor lk_M_341 ⟨rfl, rfl, Nat.le_of_ble_eq_true rfl⟩ cq_109 cc_10 (c_M_waitsFor hG zm7) rfl (Nat.le_trans jcN (Nat.le_of_ble_eq_true rfl)) ?_
      cases h
      exact J.iret d_M_waits_32 rfl (vp_nar_int _) rfl
    · rw [if_pos c] at h
      refine J.iconst (v := (-1 : Int32)) d_M_waits_22 ki_m1 ?_
      refine J.goto 32 d_M_waits_23 rfl ?_
      cases h
      exact J.iret d_M_waits_32 rfl (vp_nar_int _) rfl

def lp_M_isComing_2 (v1 : Int32) (v2 : Int32) (k39 : jMem → Option (Int32 × jMem)) (k47 : jMem → Option (Int32 × jMem)) : Nat → Int32 → jMem → Option (Int32 × jMem)
  | 0, _, _ => none
  | n + 1, v3, m =>
    if (m 109 44) ≤ v3 then
      k47 m
    else
      jld 1 m 134 v3 fun x1 =>
      if x1 = 0 then
        jld 1 m 132 v3 fun x2 =>
        if x2 = v1 then
          jld 1 m 130 v3 fun x3 =>
          if x3 = v2 then
            k39 m
          else
            lp_M_isComing_2 v1 v2 k39 k47 n (v3 + (1 : Int32)) m
        else
          lp_M_isComing_2 v1 v2 k39 k47 n (v3 + (1 : Int32)) m
      else
        lp_M_isComing_2 v1 v2 k39 k47 n (v3 + (1 : Int32)) m
def f_M_isComing (v1 : Int32) (v2 : Int32) (m : jMem) : Option (Int32 × jMem) :=
  lp_M_isComing_2 v1 v2 (fun m4 =>
    some ((1 : Int32), m4)) (fun m5 =>
    some ((0 : Int32), m5)) 5000 (0 : Int32) m
theorem jlp_M_isComing_2 {G : jG} (hG : jFul G) (v1 : Int32) (v2 : Int32) (k39 : jMem → Option (Int32 × jMem)) (k47 : jMem → Option (Int32 × jMem))
    (hk39 : ∀ (m : jMem) (r : (Int32 × jMem)), k39 m = some r → J G Y_M_isComing 39 [] [] m (jri r))
    (hk47 : ∀ (m : jMem) (r : (Int32 × jMem)), k47 m = some r → J G Y_M_isComing 47 [] [] m (jri r)) : ∀ (n : Nat) (v3 : Int32) (m : jMem) (r : (Int32 × jMem)), lp_M_isComing_2 v1 v2 k39 k47 n v3 m = some r → J G Y_M_isComing 2 [(0, jr G 109), (1, .int v1), (2, .int v2), (3, .int v3)] [] m (jri r) := by
  intro n
  induction n with
  | zero => intro v3 m r h; unfold lp_M_isComing_2 at h; cases h
  | succ n ih =>
    intro v3 m r h
    unfold lp_M_isComing_2 at h
    refine J.iload_n 3 d_M_isComing_2 rfl rfl ?_
    refine J.aload_n 0 d_M_isComing_3 rfl rfl ?_
    refine J.getI hG d_M_isComing_4 fl_M_292 ck_109_44 ?_
    refine J.icmp_ge 47 d_M_isComing_7 rfl (fun c => ?_) (fun c => ?_)
    · rw [if_pos c] at h
      exact J.sub (ls' := []) [] rfl (hk47  m _ h)
    · rw [if_neg c] at h
      refine J.aload_n 0 d_M_isComing_10 rfl rfl ?_
      refine J.getF (n := 134) hG d_M_isComing_11 fl_M_87 ck_109_49 rfl ?_
      refine J.iload_n 3 d_M_isComing_14 rfl rfl ?_
      obtain ⟨x1, ex1, g, h⟩ := jld_some h
      refine J.il hG d_M_isComing_15 g ex1 ?_
      refine J.nop (pc' := 16) rfl ?_
      refine J.if_ne 41 d_M_isComing_16 rfl (fun c => ?_) (fun c => ?_)
      · rw [if_neg c] at h
        refine J.iinc 3 (v := (1 : Int32)) (lv := [(3, .int (v3 + (1 : Int32))), (0, jr G 109), (1, .int v1), (2, .int v2)]) d_M_isComing_41 rfl ki_1 (by decide) rfl ?_
        refine J.goto 2 d_M_isComing_44 rfl ?_
        exact J.sub (ls' := [(0, jr G 109), (1, .int v1), (2, .int v2), (3, .int (v3 + (1 : Int32)))]) [1, 2, 3, 0] rfl (ih (v3 + (1 : Int32)) m _ h)
      · rw [if_pos c] at h
        refine J.aload_n 0 d_M_isComing_19 rfl rfl ?_
        refine J.getF (n := 132) hG d_M_isComing_20 fl_M_81 ck_109_47 rfl ?_
        refine J.iload_n 3 d_M_isComing_23 rfl rfl ?_
        obtain ⟨x2, ex2, g, h⟩ := jld_some h
        refine J.il hG d_M_isComing_24 g ex2 ?_
        refine J.iload_n 1 d_M_isComing_25 rfl rfl ?_
        refine J.icmp_ne 41 d_M_isComing_26 rfl (fun c => ?_) (fun c => ?_)
        · rw [if_neg c] at h
          refine J.iinc 3 (v := (1 : Int32)) (lv := [(3, .int (v3 + (1 : Int32))), (0, jr G 109), (1, .int v1), (2, .int v2)]) d_M_isComing_41 rfl ki_1 (by decide) rfl ?_
          refine J.goto 2 d_M_isComing_44 rfl ?_
          exact J.sub (ls' := [(0, jr G 109), (1, .int v1), (2, .int v2), (3, .int (v3 + (1 : Int32)))]) [1, 2, 3, 0] rfl (ih (v3 + (1 : Int32)) m _ h)
        · rw [if_pos c] at h
          refine J.aload_n 0 d_M_isComing_29 rfl rfl ?_
          refine J.nop (pc' := 30) rfl ?_
          refine J.getF (n := 130) hG d_M_isComing_30 fl_M_75 ck_109_45 rfl ?_
          refine J.iload_n 3 d_M_isComing_33 rfl rfl ?_
          obtain ⟨x3, ex3, g, h⟩ := jld_some h
          refine J.il hG d_M_isComing_34 g ex3 ?_
          refine J.iload_n 2 d_M_isComing_35 rfl rfl ?_
          refine J.icmp_ne 41 d_M_isComing_36 rfl (fun c => ?_) (fun c => ?_)
          · rw [if_neg c] at h
            refine J.iinc 3 (v := (1 : Int32)) (lv := [(3, .int (v3 + (1 : Int32))), (0, jr G 109), (1, .int v1), (2, .int v2)]) d_M_isComing_41 rfl ki_1 (by decide) rfl ?_
            refine J.goto 2 d_M_isComing_44 rfl ?_
            exact J.sub (ls' := [(0, jr G 109), (1, .int v1), (2, .int v2), (3, .int (v3 + (1 : Int32)))]) [1, 2, 3, 0] rfl (ih (v3 + (1 : Int32)) m _ h)
          · rw [if_pos c] at h
            exact J.sub (ls' := []) [] rfl (hk39  m _ h)
theorem c_M_isComing {G : jG} (hG : jFul G) {v1 : Int32} {v2 : Int32} {m : jMem} {r : (Int32 × jMem)} (h : f_M_isComing v1 v2 m = some r) : jCt G Y_M_isComing [jr G 109, .int v1, .int v2] m (jri r) := by
  refine jCt.ov (ls := [(0, jr G 109), (1, .int v1), (2, .int v2)]) mi_M_isComing (jAvR (jAvI (jAvI jAvN))) (Nat.le_of_ble_eq_true rfl) ?_ ⟨rfl, rfl⟩
  unfold f_M_isComing at h
  refine J.iconst (v := (0 : Int32)) d_M_isComing_0 ki_0 ?_
  refine J.istore_n (lv := [(3, .int (0 : Int32)), (0, jr G 109), (1, .int v1), (2, .int v2)]) d_M_isComing_1 rfl (by decide) rfl ?_
  refine J.sub (ls' := [(0, jr G 109), (1, .int v1), (2, .int v2), (3, .int (0 : Int32))]) [1, 2, 3, 0] rfl ?_
  refine jlp_M_isComing_2 hG v1 v2 _ _ ?_ ?_ _ (0 : Int32) m _ h
  · intro m4 r h
    refine J.iconst (v := (1 : Int32)) d_M_isComing_39 ki_1 ?_
    cases h
    exact J.iret d_M_isComing_40 rfl rfl rfl
  · intro m5 r h
    refine J.iconst (v := (0 : Int32)) d_M_isComing_47 ki_0 ?_
    cases h
    exact J.iret d_M_isComing_48 rfl rfl rfl

def lp_M_ever_50 (v1 : Int32) (v3 : Int32) (v4 : Int32) (k127 : Int32 → jMem → Option (Int32 × jMem)) : Nat → Int32 → Int32 → jMem → Option (Int32 × jMem)
  | 0, _, _, _ => none
  | n + 1, v2, v5, m =>
    if v3 ≤ v5 then
      k127 v2 m
    else
      if ((v4 >>> (v5 &&& 31)) &&& (1 : Int32)) = 0 then
        lp_M_ever_50 v1 v3 v4 k127 n v2 (v5 + (1 : Int32)) m
      else
        jbd (f_M_deskPlace v1 v5 m) fun x8 m9 =>
        if x8 = (-1 : Int32) then
          if (0 : Int32) = 0 then
            jbd (f_M_isComing v1 v5 m9) fun x10 m11 =>
            if x10 = 0 then
              lp_M_ever_50 v1 v3 v4 k127 n (v2 ||| ((1 : Int32) <<< (v3 &&& 31))) (v5 + (1 : Int32)) m11
            else
              lp_M_ever_50 v1 v3 v4 k127 n v2 (v5 + (1 : Int32)) m11
          else
            if ((v2 >>> (v5 &&& 31)) &&& (1 : Int32)) = (1 : Int32) then
              lp_M_ever_50 v1 v3 v4 k127 n (v2 ||| ((1 : Int32) <<< (v3 &&& 31))) (v5 + (1 : Int32)) m9
            else
              lp_M_ever_50 v1 v3 v4 k127 n v2 (v5 + (1 : Int32)) m9
        else
          if (1 : Int32) = 0 then
            jbd (f_M_isComing v1 v5 m9) fun x12 m13 =>
            if x12 = 0 then
              lp_M_ever_50 v1 v3 v4 k127 n (v2 ||| ((1 : Int32) <<< (v3 &&& 31))) (v5 + (1 : Int32)) m13
            else
              lp_M_ever_50 v1 v3 v4 k127 n v2 (v5 + (1 : Int32)) m13
          else
            if ((v2 >>> (v5 &&& 31)) &&& (1 : Int32)) = (1 : Int32) then
              lp_M_ever_50 v1 v3 v4 k127 n (v2 ||| ((1 : Int32) <<< (v3 &&& 31))) (v5 + (1 : Int32)) m9
            else
              lp_M_ever_50 v1 v3 v4 k127 n v2 (v5 + (1 : Int32)) m9
def lp_M_ever_18 (v1 : Int32) (k133 : Int32 → jMem → Option (Int32 × jMem)) : Nat → Int32 → Int32 → jMem → Option (Int32 × jMem)
  | 0, _, _, _ => none
  | n + 1, v2, v3, m =>
    if (m 109 33) ≤ v3 then
      k133 v2 m
    else
      jbd (f_M_deskPlace v1 v3 m) fun x4 m5 =>
      if x4 = (-1 : Int32) then
        lp_M_ever_18 v1 k133 n v2 (v3 + (1 : Int32)) m5
      else
        jbd (f_M_waitsFor v1 v3 m5) fun x6 m7 =>
        lp_M_ever_50 v1 v3 x6 (fun w15 m14 =>
          lp_M_ever_18 v1 k133 n w15 (v3 + (1 : Int32)) m14) 5000 v2 (0 : Int32) m7
def f_M_ever (v1 : Int32) (m : jMem) : Option (Int32 × jMem) :=
  jpu m 109 0 (0 : Int32) fun m1 =>
  jbd (f_M_isWriter v1 m1) fun x2 m3 =>
  if x2 = 0 then
    some ((-1 : Int32), m3)
  else
    lp_M_ever_18 v1 (fun w17 m16 =>
      some (w17, m16)) 5000 (0 : Int32) (0 : Int32) m3
theorem jlp_M_ever_50 {G : jG} (hG : jFul G) (v1 : Int32) (v3 : Int32) (v4 : Int32) (k127 : Int32 → jMem → Option (Int32 × jMem))
    (hk127 : ∀ (v2 : Int32) (m : jMem) (r : (Int32 × jMem)), k127 v2 m = some r → J G Y_M_ever 127 [(0, jr G 109), (1, .int v1), (2, .int v2), (3, .int v3)] [] m (jri r)) : ∀ (n : Nat) (v2 : Int32) (v5 : Int32) (m : jMem) (r : (Int32 × jMem)), lp_M_ever_50 v1 v3 v4 k127 n v2 v5 m = some r → J G Y_M_ever 50 [(0, jr G 109), (1, .int v1), (2, .int v2), (3, .int v3), (4, .int v4), (5, .int v5)] [] m (jri r) := by
  intro n
  induction n with
  | zero => intro v2 v5 m r h; unfold lp_M_ever_50 at h; cases h
  | succ n ih =>
    intro v2 v5 m r h
    unfold lp_M_ever_50 at h
    refine J.iload 5 d_M_ever_50 rfl ?_
    refine J.iload_n 3 d_M_ever_52 rfl rfl ?_
    refine J.icmp_ge 127 d_M_ever_53 rfl (fun c => ?_) (fun c => ?_)
    · rw [if_pos c] at h
      exact J.sub (ls' := [(0, jr G 109), (1, .int v1), (2, .int v2), (3, .int v3)]) [0, 1, 2, 3] rfl (hk127 v2 m _ h)
    · rw [if_neg c] at h
      refine J.iload 4 d_M_ever_56 rfl ?_
      refine J.iload 5 d_M_ever_58 rfl ?_
      refine J.ishr d_M_ever_60 ?_
      refine J.iconst (v := (1 : Int32)) d_M_ever_61 ki_1 ?_
      refine J.iand d_M_ever_62 ?_
      refine J.nop (pc' := 63) rfl ?_
      refine J.if_ne 69 d_M_ever_63 rfl (fun c => ?_) (fun c => ?_)
      · rw [if_neg c] at h
        refine J.aload_n 0 d_M_ever_69 rfl rfl ?_
        refine J.iload_n 1 d_M_ever_70 rfl rfl ?_
        refine J.iload 5 d_M_ever_71 rfl ?_
        obtain ⟨x8, m9, zm9, h⟩ := jbd_some h
        refine J.cVi Y_M_deskPlace (As := [.int v1, .int v5]) (rest := []) hG d_M_ever_73 mi_M_deskPlace mv_M_deskPlace lk_M_326 ⟨rfl, rfl, Nat.le_of_ble_eq_true rfl⟩ cq_109 cc_10 (c_M_deskPlace hG zm9) rfl (Nat.le_trans jcN (Nat.le_of_ble_eq_true rfl)) ?_
        refine J.iconst (v := (-1 : Int32)) d_M_ever_76 ki_m1 ?_
        refine J.icmp_eq 84 d_M_ever_77 rfl (fun c => ?_) (fun c => ?_)
        · rw [if_pos c] at h
          refine J.iconst (v := (0 : Int32)) d_M_ever_84 ki_0 ?_
          refine J.istore (lv := [(6, .int (0 : Int32)), (0, jr G 109), (1, .int v1), (2, .int v2), (3, .int v3), (4, .int v4), (5, .int v5)]) d_M_ever_85 (by decide) rfl ?_
          refine J.iload 0 d_M_ever_87 rfl ?_
          refine J.if_eq 105 d_M_ever_89 rfl (fun c => ?_) (fun c => ?_)
          · rw [if_pos c] at h
            refine J.aload_n 1 d_M_ever_105 rfl rfl ?_
            refine J.iload_n 2 d_M_ever_106 rfl rfl ?_
            refine J.iload 6 d_M_ever_107 rfl ?_
            obtain ⟨x10, m11, zm11, h⟩ := jbd_some h
            refine J.cVi Y_M_isComing (As := [.int v1, .int v5]) (rest := []) hG d_M_ever_109 mi_M_isComing mv_M_isComing lk_M_393 ⟨rfl, rfl, Nat.le_of_ble_eq_true rfl⟩ cq_109 cc_10 (c_M_isComing hG zm11) rfl (Nat.le_trans jcN (Nat.le_of_ble_eq_true rfl)) ?_
            refine J.if_ne 121 d_M_ever_112 rfl (fun c => ?_) (fun c => ?_)
            · rw [if_neg c] at h
              refine J.iinc 6 (v := (1 : Int32)) (lv := [(5, .int (v5 + (1 : Int32))), (6, .int (0 : Int32)), (0, jr G 109), (1, .int v1), (2, .int v2), (3, .int v3), (4, .int v4)]) d_M_ever_121 rfl ki_1 (by decide) rfl ?_
              refine J.goto 50 d_M_ever_124 rfl ?_
              exact J.sub (ls' := [(0, jr G 109), (1, .int v1), (2, .int v2), (3, .int v3), (4, .int v4), (5, .int (v5 + (1 : Int32)))]) [2, 3, 4, 5, 6, 0] rfl (ih v2 (v5 + (1 : Int32)) m11 _ h)
            · rw [if_pos c] at h
              refine J.iload_n 3 d_M_ever_115 rfl rfl ?_
              refine J.iconst (v := (1 : Int32)) d_M_ever_116 ki_1 ?_
              refine J.iload_n 4 d_M_ever_117 rfl rfl ?_
              refine J.nop (pc' := 118) rfl ?_
              refine J.ishl d_M_ever_118 ?_
              refine J.ior d_M_ever_119 ?_
              refine J.istore_n (lv := [(2, .int (v2 ||| ((1 : Int32) <<< (v3 &&& 31)))), (6, .int (0 : Int32)), (0, jr G 109), (1, .int v1), (3, .int v3), (4, .int v4), (5, .int v5)]) d_M_ever_120 rfl (by decide) rfl ?_
              refine J.iinc 6 (v := (1 : Int32)) (lv := [(5, .int (v5 + (1 : Int32))), (2, .int (v2 ||| ((1 : Int32) <<< (v3 &&& 31)))), (6, .int (0 : Int32)), (0, jr G 109), (1, .int v1), (3, .int v3), (4, .int v4)]) d_M_ever_121 rfl ki_1 (by decide) rfl ?_
              refine J.goto 50 d_M_ever_124 rfl ?_
              exact J.sub (ls' := [(0, jr G 109), (1, .int v1), (2, .int (v2 ||| ((1 : Int32) <<< (v3 &&& 31)))), (3, .int v3), (4, .int v4), (5, .int (v5 + (1 : Int32)))]) [3, 4, 1, 5, 6, 0] rfl (ih (v2 ||| ((1 : Int32) <<< (v3 &&& 31))) (v5 + (1 : Int32)) m11 _ h)
          · rw [if_neg c] at h
            refine J.iload_n 3 d_M_ever_92 rfl rfl ?_
            refine J.iload 6 d_M_ever_93 rfl ?_
            refine J.ishr d_M_ever_95 ?_
            refine J.iconst (v := (1 : Int32)) d_M_ever_96 ki_1 ?_
            refine J.nop (pc' := 97) rfl ?_
            refine J.iand d_M_ever_97 ?_
            refine J.iconst (v := (1 : Int32)) d_M_ever_98 ki_1 ?_
            refine J.icmp_ne 121 d_M_ever_99 rfl (fun c => ?_) (fun c => ?_)
            · rw [if_neg c] at h
              refine J.iinc 6 (v := (1 : Int32)) (lv := [(5, .int (v5 + (1 : Int32))), (6, .int (0 : Int32)), (0, jr G 109), (1, .int v1), (2, .int v2), (3, .int v3), (4, .int v4)]) d_M_ever_121 rfl ki_1 (by decide) rfl ?_
              refine J.goto 50 d_M_ever_124 rfl ?_
              exact J.sub (ls' := [(0, jr G 109), (1, .int v1), (2, .int v2), (3, .int v3), (4, .int v4), (5, .int (v5 + (1 : Int32)))]) [2, 3, 4, 5, 6, 0] rfl (ih v2 (v5 + (1 : Int32)) m9 _ h)
            · rw [if_pos c] at h
              refine J.goto 115 d_M_ever_102 rfl ?_
              refine J.iload_n 3 d_M_ever_115 rfl rfl ?_
              refine J.iconst (v := (1 : Int32)) d_M_ever_116 ki_1 ?_
              refine J.iload_n 4 d_M_ever_117 rfl rfl ?_
              refine J.ishl d_M_ever_118 ?_
              refine J.ior d_M_ever_119 ?_
              refine J.istore_n (lv := [(2, .int (v2 ||| ((1 : Int32) <<< (v3 &&& 31)))), (6, .int (0 : Int32)), (0, jr G 109), (1, .int v1), (3, .int v3), (4, .int v4), (5, .int v5)]) d_M_ever_120 rfl (by decide) rfl ?_
              refine J.iinc 6 (v := (1 : Int32)) (lv := [(5, .int (v5 + (1 : Int32))), (2, .int (v2 ||| ((1 : Int32) <<< (v3 &&& 31)))), (6, .int (0 : Int32)), (0, jr G 109), (1, .int v1), (3, .int v3), (4, .int v4)]) d_M_ever_121 rfl ki_1 (by decide) rfl ?_
              refine J.goto 50 d_M_ever_124 rfl ?_
              exact J.sub (ls' := [(0, jr G 109), (1, .int v1), (2, .int (v2 ||| ((1 : Int32) <<< (v3 &&& 31)))), (3, .int v3), (4, .int v4), (5, .int (v5 + (1 : Int32)))]) [3, 4, 1, 5, 6, 0] rfl (ih (v2 ||| ((1 : Int32) <<< (v3 &&& 31))) (v5 + (1 : Int32)) m9 _ h)
        · rw [if_neg c] at h
          refine J.iconst (v := (1 : Int32)) d_M_ever_80 ki_1 ?_
          refine J.goto 85 d_M_ever_81 rfl ?_
          refine J.istore (lv := [(6, .int (1 : Int32)), (0, jr G 109), (1, .int v1), (2, .int v2), (3, .int v3), (4, .int v4), (5, .int v5)]) d_M_ever_85 (by decide) rfl ?_
          refine J.iload 0 d_M_ever_87 rfl ?_
          refine J.if_eq 105 d_M_ever_89 rfl (fun c => ?_) (fun c => ?_)
          · rw [if_pos c] at h
            refine J.aload_n 1 d_M_ever_105 rfl rfl ?_
            refine J.iload_n 2 d_M_ever_106 rfl rfl ?_
            refine J.iload 6 d_M_ever_107 rfl ?_
            obtain ⟨x12, m13, zm13, h⟩ := jbd_some h
            refine J.cVi Y_M_isComing (As := [.int v1, .int v5]) (rest := []) hG d_M_ever_109 mi_M_isComing mv_M_isComing lk_M_393 ⟨rfl, rfl, Nat.le_of_ble_eq_true rfl⟩ cq_109 cc_10 (c_M_isComing hG zm13) rfl (Nat.le_trans jcN (Nat.le_of_ble_eq_true rfl)) ?_
            refine J.if_ne 121 d_M_ever_112 rfl (fun c => ?_) (fun c => ?_)
            · rw [if_neg c] at h
              refine J.iinc 6 (v := (1 : Int32)) (lv := [(5, .int (v5 + (1 : Int32))), (6, .int (1 : Int32)), (0, jr G 109), (1, .int v1), (2, .int v2), (3, .int v3), (4, .int v4)]) d_M_ever_121 rfl ki_1 (by decide) rfl ?_
              refine J.goto 50 d_M_ever_124 rfl ?_
              exact J.sub (ls' := [(0, jr G 109), (1, .int v1), (2, .int v2), (3, .int v3), (4, .int v4), (5, .int (v5 + (1 : Int32)))]) [2, 3, 4, 5, 6, 0] rfl (ih v2 (v5 + (1 : Int32)) m13 _ h)
            · rw [if_pos c] at h
              refine J.iload_n 3 d_M_ever_115 rfl rfl ?_
              refine J.iconst (v := (1 : Int32)) d_M_ever_116 ki_1 ?_
              refine J.iload_n 4 d_M_ever_117 rfl rfl ?_
              refine J.nop (pc' := 118) rfl ?_
              refine J.ishl d_M_ever_118 ?_
              refine J.ior d_M_ever_119 ?_
              refine J.istore_n (lv := [(2, .int (v2 ||| ((1 : Int32) <<< (v3 &&& 31)))), (6, .int (1 : Int32)), (0, jr G 109), (1, .int v1), (3, .int v3), (4, .int v4), (5, .int v5)]) d_M_ever_120 rfl (by decide) rfl ?_
              refine J.iinc 6 (v := (1 : Int32)) (lv := [(5, .int (v5 + (1 : Int32))), (2, .int (v2 ||| ((1 : Int32) <<< (v3 &&& 31)))), (6, .int (1 : Int32)), (0, jr G 109), (1, .int v1), (3, .int v3), (4, .int v4)]) d_M_ever_121 rfl ki_1 (by decide) rfl ?_
              refine J.goto 50 d_M_ever_124 rfl ?_
              exact J.sub (ls' := [(0, jr G 109), (1, .int v1), (2, .int (v2 ||| ((1 : Int32) <<< (v3 &&& 31)))), (3, .int v3), (4, .int v4), (5, .int (v5 + (1 : Int32)))]) [3, 4, 1, 5, 6, 0] rfl (ih (v2 ||| ((1 : Int32) <<< (v3 &&& 31))) (v5 + (1 : Int32)) m13 _ h)
          · rw [if_neg c] at h
            refine J.iload_n 3 d_M_ever_92 rfl rfl ?_
            refine J.iload 6 d_M_ever_93 rfl ?_
            refine J.ishr d_M_ever_95 ?_
            refine J.iconst (v := (1 : Int32)) d_M_ever_96 ki_1 ?_
            refine J.iand d_M_ever_97 ?_
            refine J.nop (pc' := 98) rfl ?_
            refine J.iconst (v := (1 : Int32)) d_M_ever_98 ki_1 ?_
            refine J.icmp_ne 121 d_M_ever_99 rfl (fun c => ?_) (fun c => ?_)
            · rw [if_neg c] at h
              refine J.iinc 6 (v := (1 : Int32)) (lv := [(5, .int (v5 + (1 : Int32))), (6, .int (1 : Int32)), (0, jr G 109), (1, .int v1), (2, .int v2), (3, .int v3), (4, .int v4)]) d_M_ever_121 rfl ki_1 (by decide) rfl ?_
              refine J.goto 50 d_M_ever_124 rfl ?_
              exact J.sub (ls' := [(0, jr G 109), (1, .int v1), (2, .int v2), (3, .int v3), (4, .int v4), (5, .int (v5 + (1 : Int32)))]) [2, 3, 4, 5, 6, 0] rfl (ih v2 (v5 + (1 : Int32)) m9 _ h)
            · rw [if_pos c] at h
              refine J.goto 115 d_M_ever_102 rfl ?_
              refine J.iload_n 3 d_M_ever_115 rfl rfl ?_
              refine J.iconst (v := (1 : Int32)) d_M_ever_116 ki_1 ?_
              refine J.iload_n 4 d_M_ever_117 rfl rfl ?_
              refine J.ishl d_M_ever_118 ?_
              refine J.ior d_M_ever_119 ?_
              refine J.istore_n (lv := [(2, .int (v2 ||| ((1 : Int32) <<< (v3 &&& 31)))), (6, .int (1 : Int32)), (0, jr G 109), (1, .int v1), (3, .int v3), (4, .int v4), (5, .int v5)]) d_M_ever_120 rfl (by decide) rfl ?_
              refine J.iinc 6 (v := (1 : Int32)) (lv := [(5, .int (v5 + (1 : Int32))), (2, .int (v2 ||| ((1 : Int32) <<< (v3 &&& 31)))), (6, .int (1 : Int32)), (0, jr G 109), (1, .int v1), (3, .int v3), (4, .int v4)]) d_M_ever_121 rfl ki_1 (by decide) rfl ?_
              refine J.goto 50 d_M_ever_124 rfl ?_
              exact J.sub (ls' := [(0, jr G 109), (1, .int v1), (2, .int (v2 ||| ((1 : Int32) <<< (v3 &&& 31)))), (3, .int v3), (4, .int v4), (5, .int (v5 + (1 : Int32)))]) [3, 4, 1, 5, 6, 0] rfl (ih (v2 ||| ((1 : Int32) <<< (v3 &&& 31))) (v5 + (1 : Int32)) m9 _ h)
      · rw [if_pos c] at h
        refine J.goto 121 d_M_ever_66 rfl ?_
        refine J.iinc 5 (v := (1 : Int32)) (lv := [(5, .int (v5 + (1 : Int32))), (0, jr G 109), (1, .int v1), (2, .int v2), (3, .int v3), (4, .int v4)]) d_M_ever_121 rfl ki_1 (by decide) rfl ?_
        refine J.goto 50 d_M_ever_124 rfl ?_
        exact J.sub (ls' := [(0, jr G 109), (1, .int v1), (2, .int v2), (3, .int v3), (4, .int v4), (5, .int (v5 + (1 : Int32)))]) [1, 2, 3, 4, 5, 0] rfl (ih v2 (v5 + (1 : Int32)) m _ h)
theorem jlp_M_ever_18 {G : jG} (hG : jFul G) (v1 : Int32) (k133 : Int32 → jMem → Option (Int32 × jMem))
    (hk133 : ∀ (v2 : Int32) (m : jMem) (r : (Int32 × jMem)), k133 v2 m = some r → J G Y_M_ever 133 [(2, .int v2)] [] m (jri r)) : ∀ (n : Nat) (v2 : Int32) (v3 : Int32) (m : jMem) (r : (Int32 × jMem)), lp_M_ever_18 v1 k133 n v2 v3 m = some r → J G Y_M_ever 18 [(0, jr G 109), (1, .int v1), (2, .int v2), (3, .int v3)] [] m (jri r) := by
  intro n
  induction n with
  | zero => intro v2 v3 m r h; unfold lp_M_ever_18 at h; cases h
  | succ n ih =>
    intro v2 v3 m r h
    unfold lp_M_ever_18 at h
    refine J.iload_n 3 d_M_ever_18 rfl rfl ?_
    refine J.aload_n 0 d_M_ever_19 rfl rfl ?_
    refine J.getI hG d_M_ever_20 fl_M_277 ck_109_33 ?_
    refine J.icmp_ge 133 d_M_ever_23 rfl (fun c => ?_) (fun c => ?_)
    · rw [if_pos c] at h
      exact J.sub (ls' := [(2, .int v2)]) [2] rfl (hk133 v2 m _ h)
    · rw [if_neg c] at h
      refine J.aload_n 0 d_M_ever_26 rfl rfl ?_
      refine J.iload_n 1 d_M_ever_27 rfl rfl ?_
      refine J.iload_n 3 d_M_ever_28 rfl rfl ?_
      obtain ⟨x4, m5, zm5, h⟩ := jbd_some h
      refine J.cVi Y_M_deskPlace (As := [.int v1, .int v3]) (rest := []) hG d_M_ever_29 mi_M_deskPlace mv_M_deskPlace lk_M_326 ⟨rfl, rfl, Nat.le_of_ble_eq_true rfl⟩ cq_109 cc_10 (c_M_deskPlace hG zm5) rfl (Nat.le_trans jcN (Nat.le_of_ble_eq_true rfl)) ?_
      refine J.nop (pc' := 32) rfl ?_
      refine J.iconst (v := (-1 : Int32)) d_M_ever_32 ki_m1 ?_
      refine J.icmp_ne 39 d_M_ever_33 rfl (fun c => ?_) (fun c => ?_)
      · rw [if_neg c] at h
        refine J.aload_n 0 d_M_ever_39 rfl rfl ?_
        refine J.iload_n 1 d_M_ever_40 rfl rfl ?_
        refine J.iload_n 3 d_M_ever_41 rfl rfl ?_
        obtain ⟨x6, m7, zm7, h⟩ := jbd_some h
        refine J.cVi Y_M_waitsFor (As := [.int v1, .int v3]) (rest := []) hG d_M_ever_42 mi_M_waitsFor mv_M_waitsFor lk_M_341 ⟨rfl, rfl, Nat.le_of_ble_eq_true rfl⟩ cq_109 cc_10 (c_M_waitsFor hG zm7) rfl (Nat.le_trans jcN (Nat.le_of_ble_eq_true rfl)) ?_
        refine J.istore (lv := [(4, .int x6), (0, jr G 109), (1, .int v1), (2, .int v2), (3, .int v3)]) d_M_ever_45 (by decide) rfl ?_
        refine J.iconst (v := (0 : Int32)) d_M_ever_47 ki_0 ?_
        refine J.istore (lv := [(5, .int (0 : Int32)), (4, .int x6), (0, jr G 109), (1, .int v1), (2, .int v2), (3, .int v3)]) d_M_ever_48 (by decide) rfl ?_
        refine J.sub (ls' := [(0, jr G 109), (1, .int v1), (2, .int v2), (3, .int v3), (4, .int x6), (5, .int (0 : Int32))]) [2, 3, 4, 5, 1, 0] rfl ?_
        refine jlp_M_ever_50 hG v1 v3 x6 _ ?_ _ v2 (0 : Int32) m7 _ h
        intro w15 m14 r h
        refine J.iinc 3 (v := (1 : Int32)) (lv := [(3, .int (v3 + (1 : Int32))), (0, jr G 109), (1, .int v1), (2, .int w15)]) d_M_ever_127 rfl ki_1 (by decide) rfl ?_
        refine J.goto 18 d_M_ever_130 rfl ?_
        exact J.sub (ls' := [(0, jr G 109), (1, .int v1), (2, .int w15), (3, .int (v3 + (1 : Int32)))]) [1, 2, 3, 0] rfl (ih w15 (v3 + (1 : Int32)) m14 _ h)
      · rw [if_pos c] at h
        refine J.goto 127 d_M_ever_36 rfl ?_
        refine J.iinc 3 (v := (1 : Int32)) (lv := [(3, .int (v3 + (1 : Int32))), (0, jr G 109), (1, .int v1), (2, .int v2)]) d_M_ever_127 rfl ki_1 (by decide) rfl ?_
        refine J.goto 18 d_M_ever_130 rfl ?_
        exact J.sub (ls' := [(0, jr G 109), (1, .int v1), (2, .int v2), (3, .int (v3 + (1 : Int32)))]) [1, 2, 3, 0] rfl (ih v2 (v3 + (1 : Int32)) m5 _ h)
theorem c_M_ever {G : jG} (hG : jFul G) {v1 : Int32} {m : jMem} {r : (Int32 × jMem)} (h : f_M_ever v1 m = some r) : jCt G Y_M_ever [jr G 109, .int v1] m (jri r) := by
  refine jCt.ov (ls := [(0, jr G 109), (1, .int v1)]) mi_M_ever (jAvR (jAvI jAvN)) (Nat.le_of_ble_eq_true rfl) ?_ ⟨rfl, rfl⟩
  unfold f_M_ever at h
  refine J.aload_n 0 d_M_ever_0 rfl rfl ?_
  refine J.iconst (v := (0 : Int32)) d_M_ever_1 ki_0 ?_
  obtain ⟨m1, hm1, h⟩ := jpu_some h
  refine J.putI hG d_M_ever_2 fl_M_132 fp_10_0 ck_109_0 hm1 ?_
  refine J.iload_n 1 d_M_ever_5 rfl rfl ?_
  obtain ⟨x2, m3, zm3, h⟩ := jbd_some h
  refine J.cSi Y_M_isWriter (As := [.int v1]) (rest := []) d_M_ever_6 mi_M_isWriter ms_M_isWriter lk_M_280 ⟨rfl, rfl, Nat.le_of_ble_eq_true rfl⟩ (c_M_isWriter hG zm3) rfl (Nat.le_trans jcN (Nat.le_of_ble_eq_true rfl)) ?_
  refine J.if_ne 14 d_M_ever_9 rfl (fun c => ?_) (fun c => ?_)
  · rw [if_neg c] at h
    refine J.iconst (v := (0 : Int32)) d_M_ever_14 ki_0 ?_
    refine J.istore_n (lv := [(2, .int (0 : Int32)), (0, jr G 109), (1, .int v1)]) d_M_ever_15 rfl (by decide) rfl ?_
    refine J.iconst (v := (0 : Int32)) d_M_ever_16 ki_0 ?_
    refine J.istore_n (lv := [(3, .int (0 : Int32)), (2, .int (0 : Int32)), (0, jr G 109), (1, .int v1)]) d_M_ever_17 rfl (by decide) rfl ?_
    refine J.sub (ls' := [(0, jr G 109), (1, .int v1), (2, .int (0 : Int32)), (3, .int (0 : Int32))]) [2, 3, 1, 0] rfl ?_
    refine jlp_M_ever_18 hG v1 _ ?_ _ (0 : Int32) (0 : Int32) m3 _ h
    intro w17 m16 r h
    refine J.iload_n 0 d_M_ever_133 rfl rfl ?_
    cases h
    exact J.iret d_M_ever_134 rfl (vp_nar_int _) rfl
  · rw [if_pos c] at h
    refine J.iconst (v := (-1 : Int32)) d_M_ever_12 ki_m1 ?_
    cases h
    exact J.iret d_M_ever_13 rfl (vp_nar_int _) rfl

def lp_M_has_19 (v1 : Int32) (k46 : Int32 → jMem → Option (Int32 × jMem)) : Nat → Int32 → Int32 → jMem → Option (Int32 × jMem)
  | 0, _, _, _ => none
  | n + 1, v2, v3, m =>
    if (6 : Int32) ≤ v3 then
      k46 v2 m
    else
      jld 1 m 135 v3 fun x4 =>
      lp_M_has_19 v1 k46 n (v2 ||| (((x4 >>> (v1 &&& 31)) &&& (1 : Int32)) <<< (v3 &&& 31))) (v3 + (1 : Int32)) m
def f_M_has (v1 : Int32) (m : jMem) : Option (Int32 × jMem) :=
  jpu m 109 0 (0 : Int32) fun m1 =>
  jbd (f_M_isLetter v1 m1) fun x2 m3 =>
  if x2 = 0 then
    some ((-1 : Int32), m3)
  else
    lp_M_has_19 v1 (fun w6 m5 =>
      some (w6, m5)) 5000 (0 : Int32) (0 : Int32) m3
theorem jlp_M_has_19 {G : jG} (hG : jFul G) (v1 : Int32) (k46 : Int32 → jMem → Option (Int32 × jMem))
    (hk46 : ∀ (v2 : Int32) (m : jMem) (r : (Int32 × jMem)), k46 v2 m = some r → J G Y_M_has 46 [(2, .int v2)] [] m (jri r)) : ∀ (n : Nat) (v2 : Int32) (v3 : Int32) (m : jMem) (r : (Int32 × jMem)), lp_M_has_19 v1 k46 n v2 v3 m = some r → J G Y_M_has 19 [(0, jr G 109), (1, .int v1), (2, .int v2), (3, .int v3)] [] m (jri r) := by
  intro n
  induction n with
  | zero => intro v2 v3 m r h; unfold lp_M_has_19 at h; cases h
  | succ n ih =>
    intro v2 v3 m r h
    unfold lp_M_has_19 at h
    refine J.iload_n 3 d_M_has_19 rfl rfl ?_
    refine J.bipush (v := (6 : Int32)) d_M_has_20 kb_6 ?_
    refine J.icmp_ge 46 d_M_has_22 rfl (fun c => ?_) (fun c => ?_)
    · rw [if_pos c] at h
      exact J.sub (ls' := [(2, .int v2)]) [2] rfl (hk46 v2 m _ h)
    · rw [if_neg c] at h
      refine J.iload_n 2 d_M_has_25 rfl rfl ?_
      refine J.aload_n 0 d_M_has_26 rfl rfl ?_
      refine J.getF (n := 135) hG d_M_has_27 fl_M_90 ck_109_53 rfl ?_
      refine J.iload_n 3 d_M_has_30 rfl rfl ?_
      obtain ⟨x4, ex4, g, h⟩ := jld_some h
      refine J.il hG d_M_has_31 g ex4 ?_
      refine J.nop (pc' := 32) rfl ?_
      refine J.iload_n 1 d_M_has_32 rfl rfl ?_
      refine J.ishr d_M_has_33 ?_
      refine J.iconst (v := (1 : Int32)) d_M_has_34 ki_1 ?_
      refine J.iand d_M_has_35 ?_
      refine J.iload_n 3 d_M_has_36 rfl rfl ?_
      refine J.ishl d_M_has_37 ?_
      refine J.ior d_M_has_38 ?_
      refine J.istore_n (lv := [(2, .int (v2 ||| (((x4 >>> (v1 &&& 31)) &&& (1 : Int32)) <<< (v3 &&& 31)))), (0, jr G 109), (1, .int v1), (3, .int v3)]) d_M_has_39 rfl (by decide) rfl ?_
      refine J.nop (pc' := 40) rfl ?_
      refine J.iinc 3 (v := (1 : Int32)) (lv := [(3, .int (v3 + (1 : Int32))), (2, .int (v2 ||| (((x4 >>> (v1 &&& 31)) &&& (1 : Int32)) <<< (v3 &&& 31)))), (0, jr G 109), (1, .int v1)]) d_M_has_40 rfl ki_1 (by decide) rfl ?_
      refine J.goto 19 d_M_has_43 rfl ?_
      exact J.sub (ls' := [(0, jr G 109), (1, .int v1), (2, .int (v2 ||| (((x4 >>> (v1 &&& 31)) &&& (1 : Int32)) <<< (v3 &&& 31)))), (3, .int (v3 + (1 : Int32)))]) [2, 3, 1, 0] rfl (ih (v2 ||| (((x4 >>> (v1 &&& 31)) &&& (1 : Int32)) <<< (v3 &&& 31))) (v3 + (1 : Int32)) m _ h)
theorem c_M_has {G : jG} (hG : jFul G) {v1 : Int32} {m : jMem} {r : (Int32 × jMem)} (h : f_M_has v1 m = some r) : jCt G Y_M_has [jr G 109, .int v1] m (jri r) := by
  refine jCt.ov (ls := [(0, jr G 109), (1, .int v1)]) mi_M_has (jAvR (jAvI jAvN)) (Nat.le_of_ble_eq_true rfl) ?_ ⟨rfl, rfl⟩
  unfold f_M_has at h
  refine J.aload_n 0 d_M_has_0 rfl rfl ?_
  refine J.iconst (v := (0 : Int32)) d_M_has_1 ki_0 ?_
  obtain ⟨m1, hm1, h⟩ := jpu_some h
  refine J.putI hG d_M_has_2 fl_M_132 fp_10_0 ck_109_0 hm1 ?_
  refine J.aload_n 0 d_M_has_5 rfl rfl ?_
  refine J.iload_n 1 d_M_has_6 rfl rfl ?_
  obtain ⟨x2, m3, zm3, h⟩ := jbd_some h
  refine J.cVi Y_M_isLetter (As := [.int v1]) (rest := []) hG d_M_has_7 mi_M_isLetter mv_M_isLetter lk_M_309 ⟨rfl, rfl, Nat.le_of_ble_eq_true rfl⟩ cq_109 cc_10 (c_M_isLetter hG zm3) rfl (Nat.le_trans jcN (Nat.le_of_ble_eq_true rfl)) ?_
  refine J.if_ne 15 d_M_has_10 rfl (fun c => ?_) (fun c => ?_)
  · rw [if_neg c] at h
    refine J.iconst (v := (0 : Int32)) d_M_has_15 ki_0 ?_
    refine J.istore_n (lv := [(2, .int (0 : Int32)), (0, jr G 109), (1, .int v1)]) d_M_has_16 rfl (by decide) rfl ?_
    refine J.iconst (v := (0 : Int32)) d_M_has_17 ki_0 ?_
    refine J.istore_n (lv := [(3, .int (0 : Int32)), (2, .int (0 : Int32)), (0, jr G 109), (1, .int v1)]) d_M_has_18 rfl (by decide) rfl ?_
    refine J.sub (ls' := [(0, jr G 109), (1, .int v1), (2, .int (0 : Int32)), (3, .int (0 : Int32))]) [2, 3, 1, 0] rfl ?_
    refine jlp_M_has_19 hG v1 _ ?_ _ (0 : Int32) (0 : Int32) m3 _ h
    intro w6 m5 r h
    refine J.iload_n 0 d_M_has_46 rfl rfl ?_
    cases h
    exact J.iret d_M_has_47 rfl (vp_nar_int _) rfl
  · rw [if_pos c] at h
    refine J.iconst (v := (-1 : Int32)) d_M_has_13 ki_m1 ?_
    refine J.nop (pc' := 14) rfl ?_
    cases h
    exact J.iret d_M_has_14 rfl (vp_nar_int _) rfl

def f_M_readOn (v1 : Int32) (v2 : Int32) (m : jMem) : Option (Int32 × jMem) :=
  jpu m 109 0 (0 : Int32) fun m1 =>
  jbd (f_M_isWriter v1 m1) fun x2 m3 =>
  if x2 = 0 then
    some ((-1 : Int32), m3)
  else
    jbd (f_M_isLetter v2 m3) fun x4 m5 =>
    if x4 = 0 then
      some ((-1 : Int32), m5)
    else
      jld 1 m5 136 (((30 : Int32) * v1) + v2) fun x6 =>
      some (x6, m5)
theorem c_M_readOn {G : jG} (hG : jFul G) {v1 : Int32} {v2 : Int32} {m : jMem} {r : (Int32 × jMem)} (h : f_M_readOn v1 v2 m = some r) : jCt G Y_M_readOn [jr G 109, .int v1, .int v2] m (jri r) := by
  refine jCt.ov (ls := [(0, jr G 109), (1, .int v1), (2, .int v2)]) mi_M_readOn (jAvR (jAvI (jAvI jAvN))) (Nat.le_of_ble_eq_true rfl) ?_ ⟨rfl, rfl⟩
  unfold f_M_readOn at h
  refine J.aload_n 0 d_M_readOn_0 rfl rfl ?_
  refine J.iconst (v := (0 : Int32)) d_M_readOn_1 ki_0 ?_
  obtain ⟨m1, hm1, h⟩ := jpu_some h
  refine J.putI hG d_M_readOn_2 fl_M_132 fp_10_0 ck_109_0 hm1 ?_
  refine J.iload_n 1 d_M_readOn_5 rfl rfl ?_
  obtain ⟨x2, m3, zm3, h⟩ := jbd_some h
  refine J.cSi Y_M_isWriter (As := [.int v1]) (rest := []) d_M_readOn_6 mi_M_isWriter ms_M_isWriter lk_M_280 ⟨rfl, rfl, Nat.le_of_ble_eq_true rfl⟩ (c_M_isWriter hG zm3) rfl (Nat.le_trans jcN (Nat.le_of_ble_eq_true rfl)) ?_
  refine J.if_eq 34 d_M_readOn_9 rfl (fun c => ?_) (fun c => ?_)
  · rw [if_pos c] at h
    refine J.iconst (v := (-1 : Int32)) d_M_readOn_34 ki_m1 ?_
    cases h
    exact J.iret d_M_readOn_35 rfl (vp_nar_int _) rfl
  · rw [if_neg c] at h
    refine J.aload_n 0 d_M_readOn_12 rfl rfl ?_
    refine J.iload_n 2 d_M_readOn_13 rfl rfl ?_
    refine J.nop (pc' := 14) rfl ?_
    obtain ⟨x4, m5, zm5, h⟩ := jbd_some h
    refine J.cVi Y_M_isLetter (As := [.int v2]) (rest := []) hG d_M_readOn_14 mi_M_isLetter mv_M_isLetter lk_M_309 ⟨rfl, rfl, Nat.le_of_ble_eq_true rfl⟩ cq_109 cc_10 (c_M_isLetter hG zm5) rfl (Nat.le_trans jcN (Nat.le_of_ble_eq_true rfl)) ?_
    refine J.if_eq 34 d_M_readOn_17 rfl (fun c => ?_) (fun c => ?_)
    · rw [if_pos c] at h
      refine J.iconst (v := (-1 : Int32)) d_M_readOn_34 ki_m1 ?_
      cases h
      exact J.iret d_M_readOn_35 rfl (vp_nar_int _) rfl
    · rw [if_neg c] at h
      refine J.aload_n 0 d_M_readOn_20 rfl rfl ?_
      refine J.getF (n := 136) hG d_M_readOn_21 fl_M_93 ck_109_54 rfl ?_
      refine J.bipush (v := (30 : Int32)) d_M_readOn_24 kb_30 ?_
      refine J.iload_n 1 d_M_readOn_26 rfl rfl ?_
      refine J.imul d_M_readOn_27 ?_
      refine J.iload_n 2 d_M_readOn_28 rfl rfl ?_
      refine J.nop (pc' := 29) rfl ?_
      refine J.iadd d_M_readOn_29 ?_
      obtain ⟨x6, ex6, g, h⟩ := jld_some h
      refine J.il hG d_M_readOn_30 g ex6 ?_
      refine J.goto 35 d_M_readOn_31 rfl ?_
      cases h
      exact J.iret d_M_readOn_35 rfl (vp_nar_int _) rfl

def lp_M_spread_27 (v1 : Int32) (v2 : Int32) (k73 : Int32 → jMem → Option (Int32 × jMem)) : Nat → Int32 → Int32 → jMem → Option (Int32 × jMem)
  | 0, _, _, _ => none
  | n + 1, v3, v4, m =>
    if (6 : Int32) ≤ v4 then
      k73 v3 m
    else
      jld 1 m 136 (((30 : Int32) * v4) + v1) fun x6 =>
      if x6 = (-1 : Int32) then
        lp_M_spread_27 v1 v2 k73 n v3 (v4 + (1 : Int32)) m
      else
        if v2 < x6 then
          lp_M_spread_27 v1 v2 k73 n v3 (v4 + (1 : Int32)) m
        else
          lp_M_spread_27 v1 v2 k73 n (v3 ||| ((1 : Int32) <<< (v4 &&& 31))) (v4 + (1 : Int32)) m
def f_M_spread (v1 : Int32) (v2 : Int32) (m : jMem) : Option (Int32 × jMem) :=
  jpu m 109 0 (0 : Int32) fun m1 =>
  jbd (f_M_isLetter v1 m1) fun x2 m3 =>
  if x2 = 0 then
    some ((-1 : Int32), m3)
  else
    jbd (f_M_isDay v2 m3) fun x4 m5 =>
    if x4 = 0 then
      some ((-1 : Int32), m5)
    else
      lp_M_spread_27 v1 v2 (fun w8 m7 =>
        some (w8, m7)) 5000 (0 : Int32) (0 : Int32) m5
theorem jlp_M_spread_27 {G : jG} (hG : jFul G) (v1 : Int32) (v2 : Int32) (k73 : Int32 → jMem → Option (Int32 × jMem))
    (hk73 : ∀ (v3 : Int32) (m : jMem) (r : (Int32 × jMem)), k73 v3 m = some r → J G Y_M_spread 73 [(3, .int v3)] [] m (jri r)) : ∀ (n : Nat) (v3 : Int32) (v4 : Int32) (m : jMem) (r : (Int32 × jMem)), lp_M_spread_27 v1 v2 k73 n v3 v4 m = some r → J G Y_M_spread 27 [(0, jr G 109), (1, .int v1), (2, .int v2), (3, .int v3), (4, .int v4)] [] m (jri r) := by
  intro n
  induction n with
  | zero => intro v3 v4 m r h; unfold lp_M_spread_27 at h; cases h
  | succ n ih =>
    intro v3 v4 m r h
    unfold lp_M_spread_27 at h
    refine J.iload 4 d_M_spread_27 rfl ?_
    refine J.bipush (v := (6 : Int32)) d_M_spread_29 kb_6 ?_
    refine J.icmp_ge 73 d_M_spread_31 rfl (fun c => ?_) (fun c => ?_)
    · rw [if_pos c] at h
      exact J.sub (ls' := [(3, .int v3)]) [3] rfl (hk73 v3 m _ h)
    · rw [if_neg c] at h
      refine J.aload_n 0 d_M_spread_34 rfl rfl ?_
      refine J.getF (n := 136) hG d_M_spread_35 fl_M_93 ck_109_54 rfl ?_
      refine J.bipush (v := (30 : Int32)) d_M_spread_38 kb_30 ?_
      refine J.iload 4 d_M_spread_40 rfl ?_
      refine J.imul d_M_spread_42 ?_
      refine J.nop (pc' := 43) rfl ?_
      refine J.iload_n 1 d_M_spread_43 rfl rfl ?_
      refine J.iadd d_M_spread_44 ?_
      obtain ⟨x6, ex6, g, h⟩ := jld_some h
      refine J.il hG d_M_spread_45 g ex6 ?_
      refine J.istore (lv := [(5, .int x6), (0, jr G 109), (1, .int v1), (2, .int v2), (3, .int v3), (4, .int v4)]) d_M_spread_46 (by decide) rfl ?_
      refine J.iload 0 d_M_spread_48 rfl ?_
      refine J.iconst (v := (-1 : Int32)) d_M_spread_50 ki_m1 ?_
      refine J.icmp_eq 67 d_M_spread_51 rfl (fun c => ?_) (fun c => ?_)
      · rw [if_pos c] at h
        refine J.iinc 5 (v := (1 : Int32)) (lv := [(4, .int (v4 + (1 : Int32))), (5, .int x6), (0, jr G 109), (1, .int v1), (2, .int v2), (3, .int v3)]) d_M_spread_67 rfl ki_1 (by decide) rfl ?_
        refine J.goto 27 d_M_spread_70 rfl ?_
        exact J.sub (ls' := [(0, jr G 109), (1, .int v1), (2, .int v2), (3, .int v3), (4, .int (v4 + (1 : Int32)))]) [2, 3, 4, 5, 0] rfl (ih v3 (v4 + (1 : Int32)) m _ h)
      · rw [if_neg c] at h
        refine J.iload 0 d_M_spread_54 rfl ?_
        refine J.nop (pc' := 56) rfl ?_
        refine J.iload_n 3 d_M_spread_56 rfl rfl ?_
        refine J.icmp_gt 67 d_M_spread_57 rfl (fun c => ?_) (fun c => ?_)
        · rw [if_pos c] at h
          refine J.iinc 5 (v := (1 : Int32)) (lv := [(4, .int (v4 + (1 : Int32))), (5, .int x6), (0, jr G 109), (1, .int v1), (2, .int v2), (3, .int v3)]) d_M_spread_67 rfl ki_1 (by decide) rfl ?_
          refine J.goto 27 d_M_spread_70 rfl ?_
          exact J.sub (ls' := [(0, jr G 109), (1, .int v1), (2, .int v2), (3, .int v3), (4, .int (v4 + (1 : Int32)))]) [2, 3, 4, 5, 0] rfl (ih v3 (v4 + (1 : Int32)) m _ h)
        · rw [if_neg c] at h
          refine J.iload_n 4 d_M_spread_60 rfl rfl ?_
          refine J.iconst (v := (1 : Int32)) d_M_spread_61 ki_1 ?_
          refine J.iload 5 d_M_spread_62 rfl ?_
          refine J.ishl d_M_spread_64 ?_
          refine J.ior d_M_spread_65 ?_
          refine J.istore_n (lv := [(3, .int (v3 ||| ((1 : Int32) <<< (v4 &&& 31)))), (5, .int x6), (0, jr G 109), (1, .int v1), (2, .int v2), (4, .int v4)]) d_M_spread_66 rfl (by decide) rfl ?_
          refine J.nop (pc' := 67) rfl ?_
          refine J.iinc 5 (v := (1 : Int32)) (lv := [(4, .int (v4 + (1 : Int32))), (3, .int (v3 ||| ((1 : Int32) <<< (v4 &&& 31)))), (5, .int x6), (0, jr G 109), (1, .int v1), (2, .int v2)]) d_M_spread_67 rfl ki_1 (by decide) rfl ?_
          refine J.goto 27 d_M_spread_70 rfl ?_
          exact J.sub (ls' := [(0, jr G 109), (1, .int v1), (2, .int v2), (3, .int (v3 ||| ((1 : Int32) <<< (v4 &&& 31)))), (4, .int (v4 + (1 : Int32)))]) [3, 4, 5, 1, 0] rfl (ih (v3 ||| ((1 : Int32) <<< (v4 &&& 31))) (v4 + (1 : Int32)) m _ h)
theorem c_M_spread {G : jG} (hG : jFul G) {v1 : Int32} {v2 : Int32} {m : jMem} {r : (Int32 × jMem)} (h : f_M_spread v1 v2 m = some r) : jCt G Y_M_spread [jr G 109, .int v1, .int v2] m (jri r) := by
  refine jCt.ov (ls := [(0, jr G 109), (1, .int v1), (2, .int v2)]) mi_M_spread (jAvR (jAvI (jAvI jAvN))) (Nat.le_of_ble_eq_true rfl) ?_ ⟨rfl, rfl⟩
  unfold f_M_spread at h
  refine J.aload_n 0 d_M_spread_0 rfl rfl ?_
  refine J.iconst (v := (0 : Int32)) d_M_spread_1 ki_0 ?_
  obtain ⟨m1, hm1, h⟩ := jpu_some h
  refine J.putI hG d_M_spread_2 fl_M_132 fp_10_0 ck_109_0 hm1 ?_
  refine J.aload_n 0 d_M_spread_5 rfl rfl ?_
  refine J.iload_n 1 d_M_spread_6 rfl rfl ?_
  obtain ⟨x2, m3, zm3, h⟩ := jbd_some h
  refine J.cVi Y_M_isLetter (As := [.int v1]) (rest := []) hG d_M_spread_7 mi_M_isLetter mv_M_isLetter lk_M_309 ⟨rfl, rfl, Nat.le_of_ble_eq_true rfl⟩ cq_109 cc_10 (c_M_isLetter hG zm3) rfl (Nat.le_trans jcN (Nat.le_of_ble_eq_true rfl)) ?_
  refine J.if_eq 20 d_M_spread_10 rfl (fun c => ?_) (fun c => ?_)
  · rw [if_pos c] at h
    refine J.iconst (v := (-1 : Int32)) d_M_spread_20 ki_m1 ?_
    cases h
    exact J.iret d_M_spread_21 rfl (vp_nar_int _) rfl
  · rw [if_neg c] at h
    refine J.iload_n 2 d_M_spread_13 rfl rfl ?_
    refine J.nop (pc' := 14) rfl ?_
    obtain ⟨x4, m5, zm5, h⟩ := jbd_some h
    refine J.cSi Y_M_isDay (As := [.int v2]) (rest := []) d_M_spread_14 mi_M_isDay ms_M_isDay lk_M_396 ⟨rfl, rfl, Nat.le_of_ble_eq_true rfl⟩ (c_M_isDay hG zm5) rfl (Nat.le_trans jcN (Nat.le_of_ble_eq_true rfl)) ?_
    refine J.if_ne 22 d_M_spread_17 rfl (fun c => ?_) (fun c => ?_)
    · rw [if_neg c] at h
      refine J.iconst (v := (0 : Int32)) d_M_spread_22 ki_0 ?_
      refine J.istore_n (lv := [(3, .int (0 : Int32)), (0, jr G 109), (1, .int v1), (2, .int v2)]) d_M_spread_23 rfl (by decide) rfl ?_
      refine J.iconst (v := (0 : Int32)) d_M_spread_24 ki_0 ?_
      refine J.istore (lv := [(4, .int (0 : Int32)), (3, .int (0 : Int32)), (0, jr G 109), (1, .int v1), (2, .int v2)]) d_M_spread_25 (by decide) rfl ?_
      refine J.sub (ls' := [(0, jr G 109), (1, .int v1), (2, .int v2), (3, .int (0 : Int32)), (4, .int (0 : Int32))]) [2, 3, 4, 1, 0] rfl ?_
      refine jlp_M_spread_27 hG v1 v2 _ ?_ _ (0 : Int32) (0 : Int32) m5 _ h
      intro w8 m7 r h
      refine J.iload_n 0 d_M_spread_73 rfl rfl ?_
      cases h
      exact J.iret d_M_spread_74 rfl (vp_nar_int _) rfl
    · rw [if_pos c] at h
      refine J.iconst (v := (-1 : Int32)) d_M_spread_20 ki_m1 ?_
      cases h
      exact J.iret d_M_spread_21 rfl (vp_nar_int _) rfl

def lp_M_all_19 (v1 : Int32) (k60 : jMem → Option (Int32 × jMem)) (k75 : Int32 → jMem → Option (Int32 × jMem)) : Nat → Int32 → Int32 → jMem → Option (Int32 × jMem)
  | 0, _, _, _ => none
  | n + 1, v2, v3, m =>
    if (6 : Int32) ≤ v3 then
      k75 v2 m
    else
      jld 1 m 124 v1 fun x4 =>
      if ((x4 >>> (v3 &&& 31)) &&& (1 : Int32)) = 0 then
        lp_M_all_19 v1 k60 k75 n v2 (v3 + (1 : Int32)) m
      else
        jld 1 m 136 (((30 : Int32) * v3) + v1) fun x5 =>
        if x5 = (-1 : Int32) then
          k60 m
        else
          lp_M_all_19 v1 k60 k75 n (jmax v2 x5) (v3 + (1 : Int32)) m
def f_M_all (v1 : Int32) (m : jMem) : Option (Int32 × jMem) :=
  jpu m 109 0 (0 : Int32) fun m1 =>
  jbd (f_M_isLetter v1 m1) fun x2 m3 =>
  if x2 = 0 then
    some ((-1 : Int32), m3)
  else
    lp_M_all_19 v1 (fun m6 =>
      some ((-1 : Int32), m6)) (fun w8 m7 =>
      some (w8, m7)) 5000 (0 : Int32) (0 : Int32) m3
theorem jlp_M_all_19 {G : jG} (hG : jFul G) (v1 : Int32) (k60 : jMem → Option (Int32 × jMem)) (k75 : Int32 → jMem → Option (Int32 × jMem))
    (hk60 : ∀ (m : jMem) (r : (Int32 × jMem)), k60 m = some r → J G Y_M_all 60 [] [] m (jri r))
    (hk75 : ∀ (v2 : Int32) (m : jMem) (r : (Int32 × jMem)), k75 v2 m = some r → J G Y_M_all 75 [(2, .int v2)] [] m (jri r)) : ∀ (n : Nat) (v2 : Int32) (v3 : Int32) (m : jMem) (r : (Int32 × jMem)), lp_M_all_19 v1 k60 k75 n v2 v3 m = some r → J G Y_M_all 19 [(0, jr G 109), (1, .int v1), (2, .int v2), (3, .int v3)] [] m (jri r) := by
  intro n
  induction n with
  | zero => intro v2 v3 m r h; unfold lp_M_all_19 at h; cases h
  | succ n ih =>
    intro v2 v3 m r h
    unfold lp_M_all_19 at h
    refine J.iload_n 3 d_M_all_19 rfl rfl ?_
    refine J.bipush (v := (6 : Int32)) d_M_all_20 kb_6 ?_
    refine J.icmp_ge 75 d_M_all_22 rfl (fun c => ?_) (fun c => ?_)
    · rw [if_pos c] at h
      exact J.sub (ls' := [(2, .int v2)]) [2] rfl (hk75 v2 m _ h)
    · rw [if_neg c] at h
      refine J.aload_n 0 d_M_all_25 rfl rfl ?_
      refine J.getF (n := 124) hG d_M_all_26 fl_M_57 ck_109_37 rfl ?_
      refine J.iload_n 1 d_M_all_29 rfl rfl ?_
      obtain ⟨x4, ex4, g, h⟩ := jld_some h
      refine J.il hG d_M_all_30 g ex4 ?_
      refine J.iload_n 3 d_M_all_31 rfl rfl ?_
      refine J.nop (pc' := 32) rfl ?_
      refine J.ishr d_M_all_32 ?_
      refine J.iconst (v := (1 : Int32)) d_M_all_33 ki_1 ?_
      refine J.iand d_M_all_34 ?_
      refine J.if_ne 41 d_M_all_35 rfl (fun c => ?_) (fun c => ?_)
      · rw [if_neg c] at h
        refine J.aload_n 0 d_M_all_41 rfl rfl ?_
        refine J.getF (n := 136) hG d_M_all_42 fl_M_93 ck_109_54 rfl ?_
        refine J.bipush (v := (30 : Int32)) d_M_all_45 kb_30 ?_
        refine J.iload_n 3 d_M_all_47 rfl rfl ?_
        refine J.imul d_M_all_48 ?_
        refine J.iload_n 1 d_M_all_49 rfl rfl ?_
        refine J.iadd d_M_all_50 ?_
        obtain ⟨x5, ex5, g, h⟩ := jld_some h
        refine J.il hG d_M_all_51 g ex5 ?_
        refine J.nop (pc' := 52) rfl ?_
        refine J.istore (lv := [(4, .int x5), (0, jr G 109), (1, .int v1), (2, .int v2), (3, .int v3)]) d_M_all_52 (by decide) rfl ?_
        refine J.iload 0 d_M_all_54 rfl ?_
        refine J.iconst (v := (-1 : Int32)) d_M_all_56 ki_m1 ?_
        refine J.icmp_ne 62 d_M_all_57 rfl (fun c => ?_) (fun c => ?_)
        · rw [if_neg c] at h
          refine J.iload_n 3 d_M_all_62 rfl rfl ?_
          refine J.iload 0 d_M_all_63 rfl ?_
          refine J.mx d_M_all_65 (jt_7 227 rfl rfl) (jt_3 69 rfl rfl) (jt_1 14 rfl rfl) (jt_3 70 rfl rfl) (Nat.le_trans jcN (Nat.le_of_ble_eq_true rfl)) ?_
          refine J.istore_n (lv := [(2, .int (jmax v2 x5)), (4, .int x5), (0, jr G 109), (1, .int v1), (3, .int v3)]) d_M_all_68 rfl (by decide) rfl ?_
          refine J.iinc 4 (v := (1 : Int32)) (lv := [(3, .int (v3 + (1 : Int32))), (2, .int (jmax v2 x5)), (4, .int x5), (0, jr G 109), (1, .int v1)]) d_M_all_69 rfl ki_1 (by decide) rfl ?_
          refine J.goto 19 d_M_all_72 rfl ?_
          exact J.sub (ls' := [(0, jr G 109), (1, .int v1), (2, .int (jmax v2 x5)), (3, .int (v3 + (1 : Int32)))]) [3, 4, 1, 0] rfl (ih (jmax v2 x5) (v3 + (1 : Int32)) m _ h)
        · rw [if_pos c] at h
          exact J.sub (ls' := []) [] rfl (hk60  m _ h)
      · rw [if_pos c] at h
        refine J.goto 69 d_M_all_38 rfl ?_
        refine J.iinc 3 (v := (1 : Int32)) (lv := [(3, .int (v3 + (1 : Int32))), (0, jr G 109), (1, .int v1), (2, .int v2)]) d_M_all_69 rfl ki_1 (by decide) rfl ?_
        refine J.goto 19 d_M_all_72 rfl ?_
        exact J.sub (ls' := [(0, jr G 109), (1, .int v1), (2, .int v2), (3, .int (v3 + (1 : Int32)))]) [1, 2, 3, 0] rfl (ih v2 (v3 + (1 : Int32)) m _ h)
theorem c_M_all {G : jG} (hG : jFul G) {v1 : Int32} {m : jMem} {r : (Int32 × jMem)} (h : f_M_all v1 m = some r) : jCt G Y_M_all [jr G 109, .int v1] m (jri r) := by
  refine jCt.ov (ls := [(0, jr G 109), (1, .int v1)]) mi_M_all (jAvR (jAvI jAvN)) (Nat.le_of_ble_eq_true rfl) ?_ ⟨rfl, rfl⟩
  unfold f_M_all at h
  refine J.aload_n 0 d_M_all_0 rfl rfl ?_
  refine J.iconst (v := (0 : Int32)) d_M_all_1 ki_0 ?_
  obtain ⟨m1, hm1, h⟩ := jpu_some h
  refine J.putI hG d_M_all_2 fl_M_132 fp_10_0 ck_109_0 hm1 ?_
  refine J.aload_n 0 d_M_all_5 rfl rfl ?_
  refine J.iload_n 1 d_M_all_6 rfl rfl ?_
  obtain ⟨x2, m3, zm3, h⟩ := jbd_some h
  refine J.cVi Y_M_isLetter (As := [.int v1]) (rest := []) hG d_M_all_7 mi_M_isLetter mv_M_isLetter lk_M_309 ⟨rfl, rfl, Nat.le_of_ble_eq_true rfl⟩ cq_109 cc_10 (c_M_isLetter hG zm3) rfl (Nat.le_trans jcN (Nat.le_of_ble_eq_true rfl)) ?_
  refine J.if_ne 15 d_M_all_10 rfl (fun c => ?_) (fun c => ?_)
  · rw [if_neg c] at h
    refine J.iconst (v := (0 : Int32)) d_M_all_15 ki_0 ?_
    refine J.istore_n (lv := [(2, .int (0 : Int32)), (0, jr G 109), (1, .int v1)]) d_M_all_16 rfl (by decide) rfl ?_
    refine J.iconst (v := (0 : Int32)) d_M_all_17 ki_0 ?_
    refine J.istore_n (lv := [(3, .int (0 : Int32)), (2, .int (0 : Int32)), (0, jr G 109), (1, .int v1)]) d_M_all_18 rfl (by decide) rfl ?_
    refine J.sub (ls' := [(0, jr G 109), (1, .int v1), (2, .int (0 : Int32)), (3, .int (0 : Int32))]) [2, 3, 1, 0] rfl ?_
    refine jlp_M_all_19 hG v1 _ _ ?_ ?_ _ (0 : Int32) (0 : Int32) m3 _ h
    · intro m6 r h
      refine J.iconst (v := (-1 : Int32)) d_M_all_60 ki_m1 ?_
      cases h
      exact J.iret d_M_all_61 rfl (vp_nar_int _) rfl
    · intro w8 m7 r h
      refine J.iload_n 0 d_M_all_75 rfl rfl ?_
      cases h
      exact J.iret d_M_all_76 rfl (vp_nar_int _) rfl
  · rw [if_pos c] at h
    refine J.iconst (v := (-1 : Int32)) d_M_all_13 ki_m1 ?_
    refine J.nop (pc' := 14) rfl ?_
    cases h
    exact J.iret d_M_all_14 rfl (vp_nar_int _) rfl

def f_M_burn (v1 : Int32) (m : jMem) : Option (Int32 × jMem) :=
  jpu m 109 0 (0 : Int32) fun m1 =>
  jbd (f_M_isLetter v1 m1) fun x2 m3 =>
  if x2 = 0 then
    some ((-1 : Int32), m3)
  else
    jld 2 m3 129 v1 fun x4 =>
    if x4 = 0 then
      jst 2 m3 129 v1 (jbz (1 : Int32)) fun m5 =>
      jpu m5 109 43 ((m5 109 43) + (1 : Int32)) fun m6 =>
      some (((m6 109 33) - (m6 109 43)), m6)
    else
      some ((-1 : Int32), m3)
theorem c_M_burn {G : jG} (hG : jFul G) {v1 : Int32} {m : jMem} {r : (Int32 × jMem)} (h : f_M_burn v1 m = some r) : jCt G Y_M_burn [jr G 109, .int v1] m (jri r) := by
  refine jCt.ov (ls := [(0, jr G 109), (1, .int v1)]) mi_M_burn (jAvR (jAvI jAvN)) (Nat.le_of_ble_eq_true rfl) ?_ ⟨rfl, rfl⟩
  unfold f_M_burn at h
  refine J.aload_n 0 d_M_burn_0 rfl rfl ?_
  refine J.iconst (v := (0 : Int32)) d_M_burn_1 ki_0 ?_
  obtain ⟨m1, hm1, h⟩ := jpu_some h
  refine J.putI hG d_M_burn_2 fl_M_132 fp_10_0 ck_109_0 hm1 ?_
  refine J.aload_n 0 d_M_burn_5 rfl rfl ?_
  refine J.iload_n 1 d_M_burn_6 rfl rfl ?_
  obtain ⟨x2, m3, zm3, h⟩ := jbd_some h
  refine J.cVi Y_M_isLetter (As := [.int v1]) (rest := []) hG d_M_burn_7 mi_M_isLetter mv_M_isLetter lk_M_309 ⟨rfl, rfl, Nat.le_of_ble_eq_true rfl⟩ cq_109 cc_10 (c_M_isLetter hG zm3) rfl (Nat.le_trans jcN (Nat.le_of_ble_eq_true rfl)) ?_
  refine J.if_eq 22 d_M_burn_10 rfl (fun c => ?_) (fun c => ?_)
  · rw [if_pos c] at h
    refine J.iconst (v := (-1 : Int32)) d_M_burn_22 ki_m1 ?_
    cases h
    exact J.iret d_M_burn_23 rfl (vp_nar_int _) rfl
  · rw [if_neg c] at h
    refine J.aload_n 0 d_M_burn_13 rfl rfl ?_
    refine J.nop (pc' := 14) rfl ?_
    refine J.getF (n := 129) hG d_M_burn_14 fl_M_72 ck_109_42 rfl ?_
    refine J.iload_n 1 d_M_burn_17 rfl rfl ?_
    obtain ⟨x4, ex4, g, h⟩ := jld_some h
    refine J.zl hG d_M_burn_18 g ex4 ?_
    refine J.if_eq 24 d_M_burn_19 rfl (fun c => ?_) (fun c => ?_)
    · rw [if_pos c] at h
      refine J.aload_n 0 d_M_burn_24 rfl rfl ?_
      refine J.getF (n := 129) hG d_M_burn_25 fl_M_72 ck_109_42 rfl ?_
      refine J.iload_n 1 d_M_burn_28 rfl rfl ?_
      refine J.iconst (v := (1 : Int32)) d_M_burn_29 ki_1 ?_
      obtain ⟨m5, hm5, g, h⟩ := jst_some h
      refine J.zs hG d_M_burn_30 g hm5 ?_
      refine J.aload_n 0 d_M_burn_31 rfl rfl ?_
      refine J.dup d_M_burn_32 (jr_cat _ _) ?_
      refine J.getI hG d_M_burn_33 fl_M_399 ck_109_43 ?_
      refine J.nop (pc' := 36) rfl ?_
      refine J.iconst (v := (1 : Int32)) d_M_burn_36 ki_1 ?_
      refine J.iadd d_M_burn_37 ?_
      obtain ⟨m6, hm6, h⟩ := jpu_some h
      refine J.putI hG d_M_burn_38 fl_M_399 fp_10_43 ck_109_43 hm6 ?_
      refine J.aload_n 0 d_M_burn_41 rfl rfl ?_
      refine J.getI hG d_M_burn_42 fl_M_277 ck_109_33 ?_
      refine J.aload_n 0 d_M_burn_45 rfl rfl ?_
      refine J.getI hG d_M_burn_46 fl_M_399 ck_109_43 ?_
      refine J.isub d_M_burn_49 ?_
      refine J.nop (pc' := 50) rfl ?_
      cases h
      exact J.iret d_M_burn_50 rfl (vp_nar_int _) rfl
    · rw [if_neg c] at h
      refine J.iconst (v := (-1 : Int32)) d_M_burn_22 ki_m1 ?_
      cases h
      exact J.iret d_M_burn_23 rfl (vp_nar_int _) rfl

def lp_M_sums_2 (k29 : jMem → Option (Unit × jMem)) : Nat → Int32 → jMem → Option (Unit × jMem)
  | 0, _, _ => none
  | n + 1, v1, m =>
    if (36 : Int32) ≤ v1 then
      k29 m
    else
      jld 1 m 120 v1 fun x1 =>
      jst 1 m 143 v1 x1 fun m2 =>
      lp_M_sums_2 k29 n (v1 + (1 : Int32)) m2
def lp_M_sums_47 (v1 : Int32) (v2 : Int32) (k107 : jMem → Option (Unit × jMem)) : Nat → Int32 → jMem → Option (Unit × jMem)
  | 0, _, _ => none
  | n + 1, v3, m =>
    if (6 : Int32) ≤ v3 then
      k107 m
    else
      jld 1 m 143 (((6 : Int32) * v2) + v3) fun x4 =>
      jld 1 m 143 (((6 : Int32) * v2) + v1) fun x5 =>
      jld 1 m 143 (((6 : Int32) * v1) + v3) fun x6 =>
      jst 1 m 143 (((6 : Int32) * v2) + v3) (jmin x4 (x5 + x6)) fun m7 =>
      lp_M_sums_47 v1 v2 k107 n (v3 + (1 : Int32)) m7
def lp_M_sums_39 (v1 : Int32) (k113 : jMem → Option (Unit × jMem)) : Nat → Int32 → jMem → Option (Unit × jMem)
  | 0, _, _ => none
  | n + 1, v2, m =>
    if (6 : Int32) ≤ v2 then
      k113 m
    else
      lp_M_sums_47 v1 v2 (fun m8 =>
        lp_M_sums_39 v1 k113 n (v2 + (1 : Int32)) m8) 5000 (0 : Int32) m
def lp_M_sums_31 (k119 : jMem → Option (Unit × jMem)) : Nat → Int32 → jMem → Option (Unit × jMem)
  | 0, _, _ => none
  | n + 1, v1, m =>
    if (6 : Int32) ≤ v1 then
      k119 m
    else
      lp_M_sums_39 v1 (fun m9 =>
        lp_M_sums_31 k119 n (v1 + (1 : Int32)) m9) 5000 (0 : Int32) m
def f_M_sums (m : jMem) : Option (Unit × jMem) :=
  lp_M_sums_2 (fun m3 =>
    lp_M_sums_31 (fun m10 =>
      some ((), m10)) 5000 (0 : Int32) m3) 5000 (0 : Int32) m
theorem jlp_M_sums_2 {G : jG} (hG : jFul G) (k29 : jMem → Option (Unit × jMem))
    (hk29 : ∀ (m : jMem) (r : (Unit × jMem)), k29 m = some r → J G Y_M_sums 29 [(0, jr G 109)] [] m (jrv r)) : ∀ (n : Nat) (v1 : Int32) (m : jMem) (r : (Unit × jMem)), lp_M_sums_2 k29 n v1 m = some r → J G Y_M_sums 2 [(0, jr G 109), (1, .int v1)] [] m (jrv r) := by
  intro n
  induction n with
  | zero => intro v1 m r h; unfold lp_M_sums_2 at h; cases h
  | succ n ih =>
    intro v1 m r h
    unfold lp_M_sums_2 at h
    refine J.iload_n 1 d_M_sums_2 rfl rfl ?_
    refine J.aload_n 0 d_M_sums_3 rfl rfl ?_
    refine J.getF (n := 143) hG d_M_sums_4 fl_M_114 ck_109_63 rfl ?_
    refine J.aln (v := (36 : Int32)) hG d_M_sums_7 (Or.inl rfl) rfl ?_
    refine J.icmp_ge 29 d_M_sums_8 rfl (fun c => ?_) (fun c => ?_)
    · rw [if_pos c] at h
      exact J.sub (ls' := [(0, jr G 109)]) [0] rfl (hk29  m _ h)
    · rw [if_neg c] at h
      refine J.aload_n 0 d_M_sums_11 rfl rfl ?_
      refine J.getF (n := 143) hG d_M_sums_12 fl_M_114 ck_109_63 rfl ?_
      refine J.iload_n 1 d_M_sums_15 rfl rfl ?_
      refine J.nop (pc' := 16) rfl ?_
      refine J.aload_n 0 d_M_sums_16 rfl rfl ?_
      refine J.getF (n := 120) hG d_M_sums_17 fl_M_45 ck_109_32 rfl ?_
      refine J.iload_n 1 d_M_sums_20 rfl rfl ?_
      obtain ⟨x1, ex1, g, h⟩ := jld_some h
      refine J.il hG d_M_sums_21 g ex1 ?_
      obtain ⟨m2, hm2, g, h⟩ := jst_some h
      refine J.is hG d_M_sums_22 g hm2 ?_
      refine J.iinc 1 (v := (1 : Int32)) (lv := [(1, .int (v1 + (1 : Int32))), (0, jr G 109)]) d_M_sums_23 rfl ki_1 (by decide) rfl ?_
      refine J.goto 2 d_M_sums_26 rfl ?_
      exact J.sub (ls' := [(0, jr G 109), (1, .int (v1 + (1 : Int32)))]) [1, 0] rfl (ih (v1 + (1 : Int32)) m2 _ h)
theorem jlp_M_sums_47 {G : jG} (hG : jFul G) (v1 : Int32) (v2 : Int32) (k107 : jMem → Option (Unit × jMem))
    (hk107 : ∀ (m : jMem) (r : (Unit × jMem)), k107 m = some r → J G Y_M_sums 107 [(0, jr G 109), (1, .int v1), (2, .int v2)] [] m (jrv r)) : ∀ (n : Nat) (v3 : Int32) (m : jMem) (r : (Unit × jMem)), lp_M_sums_47 v1 v2 k107 n v3 m = some r → J G Y_M_sums 47 [(0, jr G 109), (1, .int v1), (2, .int v2), (3, .int v3)] [] m (jrv r) := by
  intro n
  induction n with
  | zero => intro v3 m r h; unfold lp_M_sums_47 at h; cases h
  | succ n ih =>
    intro v3 m r h
    unfold lp_M_sums_47 at h
    refine J.iload_n 3 d_M_sums_47 rfl rfl ?_
    refine J.bipush (v := (6 : Int32)) d_M_sums_48 kb_6 ?_
    refine J.icmp_ge 107 d_M_sums_50 rfl (fun c => ?_) (fun c => ?_)
    · rw [if_pos c] at h
      exact J.sub (ls' := [(0, jr G 109), (1, .int v1), (2, .int v2)]) [0, 1, 2] rfl (hk107  m _ h)
    · rw [if_neg c] at h
      refine J.aload_n 0 d_M_sums_53 rfl rfl ?_
      refine J.getF (n := 143) hG d_M_sums_54 fl_M_114 ck_109_63 rfl ?_
      refine J.bipush (v := (6 : Int32)) d_M_sums_57 kb_6 ?_
      refine J.iload_n 2 d_M_sums_59 rfl rfl ?_
      refine J.imul d_M_sums_60 ?_
      refine J.nop (pc' := 61) rfl ?_
      refine J.iload_n 3 d_M_sums_61 rfl rfl ?_
      refine J.iadd d_M_sums_62 ?_
      refine J.aload_n 0 d_M_sums_63 rfl rfl ?_
      refine J.getF (n := 143) hG d_M_sums_64 fl_M_114 ck_109_63 rfl ?_
      refine J.bipush (v := (6 : Int32)) d_M_sums_67 kb_6 ?_
      refine J.iload_n 2 d_M_sums_69 rfl rfl ?_
      refine J.imul d_M_sums_70 ?_
      refine J.iload_n 3 d_M_sums_71 rfl rfl ?_
      refine J.nop (pc' := 72) rfl ?_
      refine J.iadd d_M_sums_72 ?_
      obtain ⟨x4, ex4, g, h⟩ := jld_some h
      refine J.il hG d_M_sums_73 g ex4 ?_
      refine J.aload_n 0 d_M_sums_74 rfl rfl ?_
      refine J.getF (n := 143) hG d_M_sums_75 fl_M_114 ck_109_63 rfl ?_
      refine J.bipush (v := (6 : Int32)) d_M_sums_78 kb_6 ?_
      refine J.iload_n 2 d_M_sums_80 rfl rfl ?_
      refine J.imul d_M_sums_81 ?_
      refine J.iload_n 1 d_M_sums_82 rfl rfl ?_
      refine J.nop (pc' := 83) rfl ?_
      refine J.iadd d_M_sums_83 ?_
      obtain ⟨x5, ex5, g, h⟩ := jld_some h
      refine J.il hG d_M_sums_84 g ex5 ?_
      refine J.aload_n 0 d_M_sums_85 rfl rfl ?_
      refine J.getF (n := 143) hG d_M_sums_86 fl_M_114 ck_109_63 rfl ?_
      refine J.bipush (v := (6 : Int32)) d_M_sums_89 kb_6 ?_
      refine J.iload_n 1 d_M_sums_91 rfl rfl ?_
      refine J.imul d_M_sums_92 ?_
      refine J.iload_n 3 d_M_sums_93 rfl rfl ?_
      refine J.nop (pc' := 94) rfl ?_
      refine J.iadd d_M_sums_94 ?_
      obtain ⟨x6, ex6, g, h⟩ := jld_some h
      refine J.il hG d_M_sums_95 g ex6 ?_
      refine J.iadd d_M_sums_96 ?_
      refine J.mn d_M_sums_97 (jt_8 23 rfl rfl) (jt_2 223 rfl rfl) (jt_1 14 rfl rfl) (jt_2 224 rfl rfl) (Nat.le_trans (jcI (jcR jcN)) (Nat.le_of_ble_eq_true rfl)) ?_
      obtain ⟨m7, hm7, g, h⟩ := jst_some h
      refine J.is hG d_M_sums_100 g hm7 ?_
      refine J.iinc 3 (v := (1 : Int32)) (lv := [(3, .int (v3 + (1 : Int32))), (0, jr G 109), (1, .int v1), (2, .int v2)]) d_M_sums_101 rfl ki_1 (by decide) rfl ?_
      refine J.goto 47 d_M_sums_104 rfl ?_
      exact J.sub (ls' := [(0, jr G 109), (1, .int v1), (2, .int v2), (3, .int (v3 + (1 : Int32)))]) [1, 2, 3, 0] rfl (ih (v3 + (1 : Int32)) m7 _ h)
theorem jlp_M_sums_39 {G : jG} (hG : jFul G) (v1 : Int32) (k113 : jMem → Option (Unit × jMem))
    (hk113 : ∀ (m : jMem) (r : (Unit × jMem)), k113 m = some r → J G Y_M_sums 113 [(0, jr G 109), (1, .int v1)] [] m (jrv r)) : ∀ (n : Nat) (v2 : Int32) (m : jMem) (r : (Unit × jMem)), lp_M_sums_39 v1 k113 n v2 m = some r → J G Y_M_sums 39 [(0, jr G 109), (1, .int v1), (2, .int v2)] [] m (jrv r) := by
  intro n
  induction n with
  | zero => intro v2 m r h; unfold lp_M_sums_39 at h; cases h
  | succ n ih =>
    intro v2 m r h
    unfold lp_M_sums_39 at h
    refine J.iload_n 2 d_M_sums_39 rfl rfl ?_
    refine J.bipush (v := (6 : Int32)) d_M_sums_40 kb_6 ?_
    refine J.icmp_ge 113 d_M_sums_42 rfl (fun c => ?_) (fun c => ?_)
    · rw [if_pos c] at h
      exact J.sub (ls' := [(0, jr G 109), (1, .int v1)]) [0, 1] rfl (hk113  m _ h)
    · rw [if_neg c] at h
      refine J.iconst (v := (0 : Int32)) d_M_sums_45 ki_0 ?_
      refine J.istore_n (lv := [(3, .int (0 : Int32)), (0, jr G 109), (1, .int v1), (2, .int v2)]) d_M_sums_46 rfl (by decide) rfl ?_
      refine J.sub (ls' := [(0, jr G 109), (1, .int v1), (2, .int v2), (3, .int (0 : Int32))]) [1, 2, 3, 0] rfl ?_
      refine jlp_M_sums_47 hG v1 v2 _ ?_ _ (0 : Int32) m _ h
      intro m8 r h
      refine J.iinc 2 (v := (1 : Int32)) (lv := [(2, .int (v2 + (1 : Int32))), (0, jr G 109), (1, .int v1)]) d_M_sums_107 rfl ki_1 (by decide) rfl ?_
      refine J.goto 39 d_M_sums_110 rfl ?_
      exact J.sub (ls' := [(0, jr G 109), (1, .int v1), (2, .int (v2 + (1 : Int32)))]) [1, 2, 0] rfl (ih (v2 + (1 : Int32)) m8 _ h)
theorem jlp_M_sums_31 {G : jG} (hG : jFul G) (k119 : jMem → Option (Unit × jMem))
    (hk119 : ∀ (m : jMem) (r : (Unit × jMem)), k119 m = some r → J G Y_M_sums 119 [] [] m (jrv r)) : ∀ (n : Nat) (v1 : Int32) (m : jMem) (r : (Unit × jMem)), lp_M_sums_31 k119 n v1 m = some r → J G Y_M_sums 31 [(0, jr G 109), (1, .int v1)] [] m (jrv r) := by
  intro n
  induction n with
  | zero => intro v1 m r h; unfold lp_M_sums_31 at h; cases h
  | succ n ih =>
    intro v1 m r h
    unfold lp_M_sums_31 at h
    refine J.iload_n 1 d_M_sums_31 rfl rfl ?_
    refine J.bipush (v := (6 : Int32)) d_M_sums_32 kb_6 ?_
    refine J.icmp_ge 119 d_M_sums_34 rfl (fun c => ?_) (fun c => ?_)
    · rw [if_pos c] at h
      exact J.sub (ls' := []) [] rfl (hk119  m _ h)
    · rw [if_neg c] at h
      refine J.iconst (v := (0 : Int32)) d_M_sums_37 ki_0 ?_
      refine J.istore_n (lv := [(2, .int (0 : Int32)), (0, jr G 109), (1, .int v1)]) d_M_sums_38 rfl (by decide) rfl ?_
      refine J.sub (ls' := [(0, jr G 109), (1, .int v1), (2, .int (0 : Int32))]) [1, 2, 0] rfl ?_
      refine jlp_M_sums_39 hG v1 _ ?_ _ (0 : Int32) m _ h
      intro m9 r h
      refine J.iinc 1 (v := (1 : Int32)) (lv := [(1, .int (v1 + (1 : Int32))), (0, jr G 109)]) d_M_sums_113 rfl ki_1 (by decide) rfl ?_
      refine J.goto 31 d_M_sums_116 rfl ?_
      exact J.sub (ls' := [(0, jr G 109), (1, .int (v1 + (1 : Int32)))]) [1, 0] rfl (ih (v1 + (1 : Int32)) m9 _ h)
theorem c_M_sums {G : jG} (hG : jFul G) {m : jMem} {r : (Unit × jMem)} (h : f_M_sums m = some r) : jCt G Y_M_sums [jr G 109] m (jrv r) := by
  refine jCt.ov (ls := [(0, jr G 109)]) mi_M_sums (jAvR jAvN) (Nat.le_of_ble_eq_true rfl) ?_ ⟨rfl, rfl⟩
  unfold f_M_sums at h
  refine J.iconst (v := (0 : Int32)) d_M_sums_0 ki_0 ?_
  refine J.istore_n (lv := [(1, .int (0 : Int32)), (0, jr G 109)]) d_M_sums_1 rfl (by decide) rfl ?_
  refine J.sub (ls' := [(0, jr G 109), (1, .int (0 : Int32))]) [1, 0] rfl ?_
  refine jlp_M_sums_2 hG _ ?_ _ (0 : Int32) m _ h
  intro m3 r h
  refine J.iconst (v := (0 : Int32)) d_M_sums_29 ki_0 ?_
  refine J.istore_n (lv := [(1, .int (0 : Int32)), (0, jr G 109)]) d_M_sums_30 rfl (by decide) rfl ?_
  refine J.sub (ls' := [(0, jr G 109), (1, .int (0 : Int32))]) [1, 0] rfl ?_
  refine jlp_M_sums_31 hG _ ?_ _ (0 : Int32) m3 _ h
  intro m10 r h
  cases h
  exact J.vret d_M_sums_119 rfl rfl

def f_M_could (v1 : Int32) (v2 : Int32) (m : jMem) : Option (Int32 × jMem) :=
  jpu m 109 0 (0 : Int32) fun m1 =>
  jbd (f_M_isLetter v1 m1) fun x2 m3 =>
  if x2 = 0 then
    some ((-1 : Int32), m3)
  else
    jbd (f_M_isLetter v2 m3) fun x4 m5 =>
    if x4 = 0 then
      some ((-1 : Int32), m5)
    else
      if v1 = v2 then
        some ((-1 : Int32), m5)
      else
        jld 2 m5 129 v1 fun x6 =>
        if x6 = 0 then
          jld 2 m5 129 v2 fun x7 =>
          if x7 = 0 then
            jbd (f_M_byAnswers (1 : Int32) m5) fun u8 m9 =>
            jld 1 m9 141 v2 fun x10 =>
            if ((x10 >>> (v1 &&& 31)) &&& (1 : Int32)) = (1 : Int32) then
              some ((2 : Int32), m9)
            else
              jbd (f_M_sums m9) fun u11 m12 =>
              jld 1 m12 121 v1 fun x13 =>
              jld 1 m12 121 v2 fun x14 =>
              if x13 = x14 then
                if v2 ≤ v1 then
                  jbd (f_M_is (0 : Int32) m12) fun x24 m25 =>
                  some (x24, m25)
                else
                  jbd (f_M_is (1 : Int32) m12) fun x26 m27 =>
                  some (x26, m27)
              else
                jld 1 m12 122 v2 fun x15 =>
                jld 1 m12 122 v1 fun x16 =>
                jld 1 m12 121 v1 fun x17 =>
                jld 1 m12 121 v2 fun x18 =>
                jld 1 m12 143 (((6 : Int32) * x17) + x18) fun x19 =>
                if (x15 - x16) < x19 then
                  jbd (f_M_is (0 : Int32) m12) fun x20 m21 =>
                  some (x20, m21)
                else
                  jbd (f_M_is (1 : Int32) m12) fun x22 m23 =>
                  some (x22, m23)
          else
            some ((-1 : Int32), m5)
        else
          some ((-1 : Int32), m5)
theorem c_M_could {G : jG} (hG : jFul G) {v1 : Int32} {v2 : Int32} {m : jMem} {r : (Int32 × jMem)} (h : f_M_could v1 v2 m = some r) : jCt G Y_M_could [jr G 109, .int v1, .int v2] m (jri r) := by
  refine jCt.ov (ls := [(0, jr G 109), (1, .int v1), (2, .int v2)]) mi_M_could (jAvR (jAvI (jAvI jAvN))) (Nat.le_of_ble_eq_true rfl) ?_ ⟨rfl, rfl⟩
  unfold f_M_could at h
  refine J.aload_n 0 d_M_could_0 rfl rfl ?_
  refine J.iconst (v := (0 : Int32)) d_M_could_1 ki_0 ?_
  obtain ⟨m1, hm1, h⟩ := jpu_some h
  refine J.putI hG d_M_could_2 fl_M_132 fp_10_0 ck_109_0 hm1 ?_
  refine J.aload_n 0 d_M_could_5 rfl rfl ?_
  refine J.iload_n 1 d_M_could_6 rfl rfl ?_
  obtain ⟨x2, m3, zm3, h⟩ := jbd_some h
  refine J.cVi Y_M_isLetter (As := [.int v1]) (rest := []) hG d_M_could_7 mi_M_isLetter mv_M_isLetter lk_M_309 ⟨rfl, rfl, Nat.le_of_ble_eq_true rfl⟩ cq_109 cc_10 (c_M_isLetter hG zm3) rfl (Nat.le_trans jcN (Nat.le_of_ble_eq_true rfl)) ?_
  refine J.if_eq 44 d_M_could_10 rfl (fun c => ?_) (fun c => ?_)
  · rw [if_pos c] at h
    refine J.iconst (v := (-1 : Int32)) d_M_could_44 ki_m1 ?_
    cases h
    exact J.iret d_M_could_45 rfl (vp_nar_int _) rfl
  · rw [if_neg c] at h
    refine J.aload_n 0 d_M_could_13 rfl rfl ?_
    refine J.nop (pc' := 14) rfl ?_
    refine J.iload_n 2 d_M_could_14 rfl rfl ?_
    obtain ⟨x4, m5, zm5, h⟩ := jbd_some h
    refine J.cVi Y_M_isLetter (As := [.int v2]) (rest := []) hG d_M_could_15 mi_M_isLetter mv_M_isLetter lk_M_309 ⟨rfl, rfl, Nat.le_of_ble_eq_true rfl⟩ cq_109 cc_10 (c_M_isLetter hG zm5) rfl (Nat.le_trans jcN (Nat.le_of_ble_eq_true rfl)) ?_
    refine J.if_eq 44 d_M_could_18 rfl (fun c => ?_) (fun c => ?_)
    · rw [if_pos c] at h
      refine J.iconst (v := (-1 : Int32)) d_M_could_44 ki_m1 ?_
      cases h
      exact J.iret d_M_could_45 rfl (vp_nar_int _) rfl
    · rw [if_neg c] at h
      refine J.iload_n 1 d_M_could_21 rfl rfl ?_
      refine J.iload_n 2 d_M_could_22 rfl rfl ?_
      refine J.icmp_eq 44 d_M_could_23 rfl (fun c => ?_) (fun c => ?_)
      · rw [if_pos c] at h
        refine J.iconst (v := (-1 : Int32)) d_M_could_44 ki_m1 ?_
        cases h
        exact J.iret d_M_could_45 rfl (vp_nar_int _) rfl
      · rw [if_neg c] at h
        refine J.aload_n 0 d_M_could_26 rfl rfl ?_
        refine J.getF (n := 129) hG d_M_could_27 fl_M_72 ck_109_42 rfl ?_
        refine J.nop (pc' := 30) rfl ?_
        refine J.iload_n 1 d_M_could_30 rfl rfl ?_
        obtain ⟨x6, ex6, g, h⟩ := jld_some h
        refine J.zl hG d_M_could_31 g ex6 ?_
        refine J.if_ne 44 d_M_could_32 rfl (fun c => ?_) (fun c => ?_)
        · rw [if_neg c] at h
          refine J.iconst (v := (-1 : Int32)) d_M_could_44 ki_m1 ?_
          cases h
          exact J.iret d_M_could_45 rfl (vp_nar_int _) rfl
        · rw [if_pos c] at h
          refine J.aload_n 0 d_M_could_35 rfl rfl ?_
          refine J.getF (n := 129) hG d_M_could_36 fl_M_72 ck_109_42 rfl ?_
          refine J.iload_n 2 d_M_could_39 rfl rfl ?_
          obtain ⟨x7, ex7, g, h⟩ := jld_some h
          refine J.zl hG d_M_could_40 g ex7 ?_
          refine J.if_eq 46 d_M_could_41 rfl (fun c => ?_) (fun c => ?_)
          · rw [if_pos c] at h
            refine J.aload_n 0 d_M_could_46 rfl rfl ?_
            refine J.iconst (v := (1 : Int32)) d_M_could_47 ki_1 ?_
            obtain ⟨u8, m9, zm9, h⟩ := jbd_some h
            refine J.cVv Y_M_byAnswers (As := [.int (1 : Int32)]) (rest := []) hG d_M_could_48 mi_M_byAnswers mv_M_byAnswers lk_M_371 ⟨rfl, rfl, Nat.le_of_ble_eq_true rfl⟩ cq_109 cc_10 (c_M_byAnswers hG zm9) rfl (Nat.le_trans jcN (Nat.le_of_ble_eq_true rfl)) ?_
            refine J.aload_n 0 d_M_could_51 rfl rfl ?_
            refine J.getF (n := 141) hG d_M_could_52 fl_M_108 ck_109_60 rfl ?_
            refine J.iload_n 2 d_M_could_55 rfl rfl ?_
            obtain ⟨x10, ex10, g, h⟩ := jld_some h
            refine J.il hG d_M_could_56 g ex10 ?_
            refine J.iload_n 1 d_M_could_57 rfl rfl ?_
            refine J.nop (pc' := 58) rfl ?_
            refine J.ishr d_M_could_58 ?_
            refine J.iconst (v := (1 : Int32)) d_M_could_59 ki_1 ?_
            refine J.iand d_M_could_60 ?_
            refine J.iconst (v := (1 : Int32)) d_M_could_61 ki_1 ?_
            refine J.icmp_ne 67 d_M_could_62 rfl (fun c => ?_) (fun c => ?_)
            · rw [if_neg c] at h
              refine J.aload_n 0 d_M_could_67 rfl rfl ?_
              obtain ⟨u11, m12, zm12, h⟩ := jbd_some h
              refine J.cVv Y_M_sums (As := []) (rest := []) hG d_M_could_68 mi_M_sums mv_M_sums lk_M_402 ⟨rfl, rfl, Nat.le_of_ble_eq_true rfl⟩ cq_109 cc_10 (c_M_sums hG zm12) rfl (Nat.le_trans jcN (Nat.le_of_ble_eq_true rfl)) ?_
              refine J.aload_n 0 d_M_could_71 rfl rfl ?_
              refine J.getF (n := 121) hG d_M_could_72 fl_M_48 ck_109_34 rfl ?_
              refine J.iload_n 1 d_M_could_75 rfl rfl ?_
              obtain ⟨x13, ex13, g, h⟩ := jld_some h
              refine J.il hG d_M_could_76 g ex13 ?_
              refine J.aload_n 0 d_M_could_77 rfl rfl ?_
              refine J.getF (n := 121) hG d_M_could_78 fl_M_48 ck_109_34 rfl ?_
              refine J.nop (pc' := 81) rfl ?_
              refine J.iload_n 2 d_M_could_81 rfl rfl ?_
              obtain ⟨x14, ex14, g, h⟩ := jld_some h
              refine J.il hG d_M_could_82 g ex14 ?_
              refine J.icmp_ne 100 d_M_could_83 rfl (fun c => ?_) (fun c => ?_)
              · rw [if_neg c] at h
                refine J.aload_n 0 d_M_could_100 rfl rfl ?_
                refine J.getF (n := 122) hG d_M_could_101 fl_M_51 ck_109_35 rfl ?_
                refine J.iload_n 2 d_M_could_104 rfl rfl ?_
                obtain ⟨x15, ex15, g, h⟩ := jld_some h
                refine J.il hG d_M_could_105 g ex15 ?_
                refine J.aload_n 0 d_M_could_106 rfl rfl ?_
                refine J.getF (n := 122) hG d_M_could_107 fl_M_51 ck_109_35 rfl ?_
                refine J.iload_n 1 d_M_could_110 rfl rfl ?_
                obtain ⟨x16, ex16, g, h⟩ := jld_some h
                refine J.il hG d_M_could_111 g ex16 ?_
                refine J.nop (pc' := 112) rfl ?_
                refine J.isub d_M_could_112 ?_
                refine J.aload_n 0 d_M_could_113 rfl rfl ?_
                refine J.getF (n := 143) hG d_M_could_114 fl_M_114 ck_109_63 rfl ?_
                refine J.bipush (v := (6 : Int32)) d_M_could_117 kb_6 ?_
                refine J.aload_n 0 d_M_could_119 rfl rfl ?_
                refine J.getF (n := 121) hG d_M_could_120 fl_M_48 ck_109_34 rfl ?_
                refine J.iload_n 1 d_M_could_123 rfl rfl ?_
                obtain ⟨x17, ex17, g, h⟩ := jld_some h
                refine J.il hG d_M_could_124 g ex17 ?_
                refine J.nop (pc' := 125) rfl ?_
                refine J.imul d_M_could_125 ?_
                refine J.aload_n 0 d_M_could_126 rfl rfl ?_
                refine J.getF (n := 121) hG d_M_could_127 fl_M_48 ck_109_34 rfl ?_
                refine J.iload_n 2 d_M_could_130 rfl rfl ?_
                obtain ⟨x18, ex18, g, h⟩ := jld_some h
                refine J.il hG d_M_could_131 g ex18 ?_
                refine J.iadd d_M_could_132 ?_
                obtain ⟨x19, ex19, g, h⟩ := jld_some h
                refine J.il hG d_M_could_133 g ex19 ?_
                refine J.icmp_lt 141 d_M_could_134 rfl (fun c => ?_) (fun c => ?_)
                · rw [if_pos c] at h
                  refine J.iconst (v := (0 : Int32)) d_M_could_141 ki_0 ?_
                  obtain ⟨x20, m21, zm21, h⟩ := jbd_some h
                  refine J.cSi Y_M_is (As := [.int (0 : Int32)]) (rest := []) d_M_could_142 mi_M_is ms_M_is lk_M_270 ⟨rfl, rfl, Nat.le_of_ble_eq_true rfl⟩ (c_M_is hG zm21) rfl (Nat.le_trans jcN (Nat.le_of_ble_eq_true rfl)) ?_
                  cases h
                  exact J.iret d_M_could_145 rfl (vp_nar_int _) rfl
                · rw [if_neg c] at h
                  refine J.nop (pc' := 137) rfl ?_
                  refine J.iconst (v := (1 : Int32)) d_M_could_137 ki_1 ?_
                  refine J.goto 142 d_M_could_138 rfl ?_
                  obtain ⟨x22, m23, zm23, h⟩ := jbd_some h
                  refine J.cSi Y_M_is (As := [.int (1 : Int32)]) (rest := []) d_M_could_142 mi_M_is ms_M_is lk_M_270 ⟨rfl, rfl, Nat.le_of_ble_eq_true rfl⟩ (c_M_is hG zm23) rfl (Nat.le_trans jcN (Nat.le_of_ble_eq_true rfl)) ?_
                  cases h
                  exact J.iret d_M_could_145 rfl (vp_nar_int _) rfl
              · rw [if_pos c] at h
                refine J.iload_n 1 d_M_could_86 rfl rfl ?_
                refine J.iload_n 2 d_M_could_87 rfl rfl ?_
                refine J.icmp_ge 95 d_M_could_88 rfl (fun c => ?_) (fun c => ?_)
                · rw [if_pos c] at h
                  refine J.iconst (v := (0 : Int32)) d_M_could_95 ki_0 ?_
                  obtain ⟨x24, m25, zm25, h⟩ := jbd_some h
                  refine J.cSi Y_M_is (As := [.int (0 : Int32)]) (rest := []) d_M_could_96 mi_M_is ms_M_is lk_M_270 ⟨rfl, rfl, Nat.le_of_ble_eq_true rfl⟩ (c_M_is hG zm25) rfl (Nat.le_trans jcN (Nat.le_of_ble_eq_true rfl)) ?_
                  cases h
                  exact J.iret d_M_could_99 rfl (vp_nar_int _) rfl
                · rw [if_neg c] at h
                  refine J.iconst (v := (1 : Int32)) d_M_could_91 ki_1 ?_
                  refine J.goto 96 d_M_could_92 rfl ?_
                  obtain ⟨x26, m27, zm27, h⟩ := jbd_some h
                  refine J.cSi Y_M_is (As := [.int (1 : Int32)]) (rest := []) d_M_could_96 mi_M_is ms_M_is lk_M_270 ⟨rfl, rfl, Nat.le_of_ble_eq_true rfl⟩ (c_M_is hG zm27) rfl (Nat.le_trans jcN (Nat.le_of_ble_eq_true rfl)) ?_
                  cases h
                  exact J.iret d_M_could_99 rfl (vp_nar_int _) rfl
            · rw [if_pos c] at h
              refine J.iconst (v := (2 : Int32)) d_M_could_65 ki_2 ?_
              cases h
              exact J.iret d_M_could_66 rfl (vp_nar_int _) rfl
          · rw [if_neg c] at h
            refine J.nop (pc' := 44) rfl ?_
            refine J.iconst (v := (-1 : Int32)) d_M_could_44 ki_m1 ?_
            cases h
            exact J.iret d_M_could_45 rfl (vp_nar_int _) rfl

def f_M_listed (v0 : Int32) (v1 : Int32) (m : jMem) : Option (Int32 × jMem) :=
  some (((v0 >>> (((5 : Int32) * v1) &&& 31)) &&& (31 : Int32)), m)
theorem c_M_listed {G : jG} (hG : jFul G) {v0 : Int32} {v1 : Int32} {m : jMem} {r : (Int32 × jMem)} (h : f_M_listed v0 v1 m = some r) : jCt G Y_M_listed [.int v0, .int v1] m (jri r) := by
  refine jCt.ov (ls := [(0, .int v0), (1, .int v1)]) mi_M_listed (jAvI (jAvI jAvN)) (Nat.le_of_ble_eq_true rfl) ?_ ⟨rfl, rfl⟩
  unfold f_M_listed at h
  refine J.iload_n 0 d_M_listed_0 rfl rfl ?_
  refine J.iconst (v := (5 : Int32)) d_M_listed_1 ki_5 ?_
  refine J.iload_n 1 d_M_listed_2 rfl rfl ?_
  refine J.imul d_M_listed_3 ?_
  refine J.ishr d_M_listed_4 ?_
  refine J.bipush (v := (31 : Int32)) d_M_listed_5 kb_31 ?_
  refine J.iand d_M_listed_7 ?_
  cases h
  exact J.iret d_M_listed_8 rfl (vp_nar_int _) rfl

def lp_M_manyBy_5 (v1 : Int32) (v2 : Int32) (k50 : Int32 → jMem → Option (Int32 × jMem)) : Nat → Int32 → Int32 → jMem → Option (Int32 × jMem)
  | 0, _, _, _ => none
  | n + 1, v3, v4, m =>
    if (m 109 33) ≤ v4 then
      k50 v3 m
    else
      jld 1 m 121 v4 fun x1 =>
      if x1 = v1 then
        jld 1 m 122 v4 fun x2 =>
        if v2 < x2 then
          lp_M_manyBy_5 v1 v2 k50 n (v3 + (0 : Int32)) (v4 + (1 : Int32)) m
        else
          lp_M_manyBy_5 v1 v2 k50 n (v3 + (1 : Int32)) (v4 + (1 : Int32)) m
      else
        lp_M_manyBy_5 v1 v2 k50 n (v3 + (0 : Int32)) (v4 + (1 : Int32)) m
def f_M_manyBy (v1 : Int32) (v2 : Int32) (m : jMem) : Option (Int32 × jMem) :=
  lp_M_manyBy_5 v1 v2 (fun w4 m3 =>
    some (w4, m3)) 5000 (0 : Int32) (0 : Int32) m
theorem jlp_M_manyBy_5 {G : jG} (hG : jFul G) (v1 : Int32) (v2 : Int32) (k50 : Int32 → jMem → Option (Int32 × jMem))
    (hk50 : ∀ (v3 : Int32) (m : jMem) (r : (Int32 × jMem)), k50 v3 m = some r → J G Y_M_manyBy 50 [(3, .int v3)] [] m (jri r)) : ∀ (n : Nat) (v3 : Int32) (v4 : Int32) (m : jMem) (r : (Int32 × jMem)), lp_M_manyBy_5 v1 v2 k50 n v3 v4 m = some r → J G Y_M_manyBy 5 [(0, jr G 109), (1, .int v1), (2, .int v2), (3, .int v3), (4, .int v4)] [] m (jri r) := by
  intro n
  induction n with
  | zero => intro v3 v4 m r h; unfold lp_M_manyBy_5 at h; cases h
  | succ n ih =>
    intro v3 v4 m r h
    unfold lp_M_manyBy_5 at h
    refine J.iload 4 d_M_manyBy_5 rfl ?_
    refine J.aload_n 0 d_M_manyBy_7 rfl rfl ?_
    refine J.getI hG d_M_manyBy_8 fl_M_277 ck_109_33 ?_
    refine J.icmp_ge 50 d_M_manyBy_11 rfl (fun c => ?_) (fun c => ?_)
    · rw [if_pos c] at h
      exact J.sub (ls' := [(3, .int v3)]) [3] rfl (hk50 v3 m _ h)
    · rw [if_neg c] at h
      refine J.iload_n 3 d_M_manyBy_14 rfl rfl ?_
      refine J.aload_n 0 d_M_manyBy_15 rfl rfl ?_
      refine J.getF (n := 121) hG d_M_manyBy_16 fl_M_48 ck_109_34 rfl ?_
      refine J.iload 4 d_M_manyBy_19 rfl ?_
      refine J.nop (pc' := 21) rfl ?_
      obtain ⟨x1, ex1, g, h⟩ := jld_some h
      refine J.il hG d_M_manyBy_21 g ex1 ?_
      refine J.iload_n 1 d_M_manyBy_22 rfl rfl ?_
      refine J.icmp_ne 41 d_M_manyBy_23 rfl (fun c => ?_) (fun c => ?_)
      · rw [if_neg c] at h
        refine J.iconst (v := (0 : Int32)) d_M_manyBy_41 ki_0 ?_
        refine J.iadd d_M_manyBy_42 ?_
        refine J.istore_n (lv := [(3, .int (v3 + (0 : Int32))), (0, jr G 109), (1, .int v1), (2, .int v2), (4, .int v4)]) d_M_manyBy_43 rfl (by decide) rfl ?_
        refine J.iinc 4 (v := (1 : Int32)) (lv := [(4, .int (v4 + (1 : Int32))), (3, .int (v3 + (0 : Int32))), (0, jr G 109), (1, .int v1), (2, .int v2)]) d_M_manyBy_44 rfl ki_1 (by decide) rfl ?_
        refine J.goto 5 d_M_manyBy_47 rfl ?_
        exact J.sub (ls' := [(0, jr G 109), (1, .int v1), (2, .int v2), (3, .int (v3 + (0 : Int32))), (4, .int (v4 + (1 : Int32)))]) [2, 3, 4, 1, 0] rfl (ih (v3 + (0 : Int32)) (v4 + (1 : Int32)) m _ h)
      · rw [if_pos c] at h
        refine J.aload_n 0 d_M_manyBy_26 rfl rfl ?_
        refine J.getF (n := 122) hG d_M_manyBy_27 fl_M_51 ck_109_35 rfl ?_
        refine J.iload 4 d_M_manyBy_30 rfl ?_
        obtain ⟨x2, ex2, g, h⟩ := jld_some h
        refine J.il hG d_M_manyBy_32 g ex2 ?_
        refine J.iload_n 2 d_M_manyBy_33 rfl rfl ?_
        refine J.nop (pc' := 34) rfl ?_
        refine J.icmp_gt 41 d_M_manyBy_34 rfl (fun c => ?_) (fun c => ?_)
        · rw [if_pos c] at h
          refine J.iconst (v := (0 : Int32)) d_M_manyBy_41 ki_0 ?_
          refine J.iadd d_M_manyBy_42 ?_
          refine J.istore_n (lv := [(3, .int (v3 + (0 : Int32))), (0, jr G 109), (1, .int v1), (2, .int v2), (4, .int v4)]) d_M_manyBy_43 rfl (by decide) rfl ?_
          refine J.iinc 4 (v := (1 : Int32)) (lv := [(4, .int (v4 + (1 : Int32))), (3, .int (v3 + (0 : Int32))), (0, jr G 109), (1, .int v1), (2, .int v2)]) d_M_manyBy_44 rfl ki_1 (by decide) rfl ?_
          refine J.goto 5 d_M_manyBy_47 rfl ?_
          exact J.sub (ls' := [(0, jr G 109), (1, .int v1), (2, .int v2), (3, .int (v3 + (0 : Int32))), (4, .int (v4 + (1 : Int32)))]) [2, 3, 4, 1, 0] rfl (ih (v3 + (0 : Int32)) (v4 + (1 : Int32)) m _ h)
        · rw [if_neg c] at h
          refine J.iconst (v := (1 : Int32)) d_M_manyBy_37 ki_1 ?_
          refine J.goto 42 d_M_manyBy_38 rfl ?_
          refine J.iadd d_M_manyBy_42 ?_
          refine J.istore_n (lv := [(3, .int (v3 + (1 : Int32))), (0, jr G 109), (1, .int v1), (2, .int v2), (4, .int v4)]) d_M_manyBy_43 rfl (by decide) rfl ?_
          refine J.iinc 4 (v := (1 : Int32)) (lv := [(4, .int (v4 + (1 : Int32))), (3, .int (v3 + (1 : Int32))), (0, jr G 109), (1, .int v1), (2, .int v2)]) d_M_manyBy_44 rfl ki_1 (by decide) rfl ?_
          refine J.goto 5 d_M_manyBy_47 rfl ?_
          exact J.sub (ls' := [(0, jr G 109), (1, .int v1), (2, .int v2), (3, .int (v3 + (1 : Int32))), (4, .int (v4 + (1 : Int32)))]) [2, 3, 4, 1, 0] rfl (ih (v3 + (1 : Int32)) (v4 + (1 : Int32)) m _ h)
theorem c_M_manyBy {G : jG} (hG : jFul G) {v1 : Int32} {v2 : Int32} {m : jMem} {r : (Int32 × jMem)} (h : f_M_manyBy v1 v2 m = some r) : jCt G Y_M_manyBy [jr G 109, .int v1, .int v2] m (jri r) := by
  refine jCt.ov (ls := [(0, jr G 109), (1, .int v1), (2, .int v2)]) mi_M_manyBy (jAvR (jAvI (jAvI jAvN))) (Nat.le_of_ble_eq_true rfl) ?_ ⟨rfl, rfl⟩
  unfold f_M_manyBy at h
  refine J.iconst (v := (0 : Int32)) d_M_manyBy_0 ki_0 ?_
  refine J.istore_n (lv := [(3, .int (0 : Int32)), (0, jr G 109), (1, .int v1), (2, .int v2)]) d_M_manyBy_1 rfl (by decide) rfl ?_
  refine J.iconst (v := (0 : Int32)) d_M_manyBy_2 ki_0 ?_
  refine J.istore (lv := [(4, .int (0 : Int32)), (3, .int (0 : Int32)), (0, jr G 109), (1, .int v1), (2, .int v2)]) d_M_manyBy_3 (by decide) rfl ?_
  refine J.sub (ls' := [(0, jr G 109), (1, .int v1), (2, .int v2), (3, .int (0 : Int32)), (4, .int (0 : Int32))]) [2, 3, 4, 1, 0] rfl ?_
  refine jlp_M_manyBy_5 hG v1 v2 _ ?_ _ (0 : Int32) (0 : Int32) m _ h
  intro w4 m3 r h
  refine J.iload_n 0 d_M_manyBy_50 rfl rfl ?_
  cases h
  exact J.iret d_M_manyBy_51 rfl (vp_nar_int _) rfl

def lp_M_letterOf_5 (v1 : Int32) (v2 : Int32) (k49 : Int32 → jMem → Option (Int32 × jMem)) (k58 : jMem → Option (Int32 × jMem)) : Nat → Int32 → Int32 → jMem → Option (Int32 × jMem)
  | 0, _, _, _ => none
  | n + 1, v3, v4, m =>
    if (m 109 33) ≤ v4 then
      k58 m
    else
      jld 1 m 121 v4 fun x1 =>
      if x1 = v1 then
        if (v3 + (1 : Int32)) = v2 then
          jld 1 m 121 v4 fun x3 =>
          if x3 = v1 then
            k49 v4 m
          else
            lp_M_letterOf_5 v1 v2 k49 k58 n (v3 + (1 : Int32)) (v4 + (1 : Int32)) m
        else
          lp_M_letterOf_5 v1 v2 k49 k58 n (v3 + (1 : Int32)) (v4 + (1 : Int32)) m
      else
        if (v3 + (0 : Int32)) = v2 then
          jld 1 m 121 v4 fun x2 =>
          if x2 = v1 then
            k49 v4 m
          else
            lp_M_letterOf_5 v1 v2 k49 k58 n (v3 + (0 : Int32)) (v4 + (1 : Int32)) m
        else
          lp_M_letterOf_5 v1 v2 k49 k58 n (v3 + (0 : Int32)) (v4 + (1 : Int32)) m
def f_M_letterOf (v1 : Int32) (v2 : Int32) (m : jMem) : Option (Int32 × jMem) :=
  lp_M_letterOf_5 v1 v2 (fun w5 m4 =>
    some (w5, m4)) (fun m6 =>
    some ((-1 : Int32), m6)) 5000 (0 : Int32) (0 : Int32) m
theorem jlp_M_letterOf_5 {G : jG} (hG : jFul G) (v1 : Int32) (v2 : Int32) (k49 : Int32 → jMem → Option (Int32 × jMem)) (k58 : jMem → Option (Int32 × jMem))
    (hk49 : ∀ (v4 : Int32) (m : jMem) (r : (Int32 × jMem)), k49 v4 m = some r → J G Y_M_letterOf 49 [(4, .int v4)] [] m (jri r))
    (hk58 : ∀ (m : jMem) (r : (Int32 × jMem)), k58 m = some r → J G Y_M_letterOf 58 [] [] m (jri r)) : ∀ (n : Nat) (v3 : Int32) (v4 : Int32) (m : jMem) (r : (Int32 × jMem)), lp_M_letterOf_5 v1 v2 k49 k58 n v3 v4 m = some r → J G Y_M_letterOf 5 [(0, jr G 109), (1, .int v1), (2, .int v2), (3, .int v3), (4, .int v4)] [] m (jri r) := by
  intro n
  induction n with
  | zero => intro v3 v4 m r h; unfold lp_M_letterOf_5 at h; cases h
  | succ n ih =>
    intro v3 v4 m r h
    unfold lp_M_letterOf_5 at h
    refine J.iload 4 d_M_letterOf_5 rfl ?_
    refine J.aload_n 0 d_M_letterOf_7 rfl rfl ?_
    refine J.getI hG d_M_letterOf_8 fl_M_277 ck_109_33 ?_
    refine J.icmp_ge 58 d_M_letterOf_11 rfl (fun c => ?_) (fun c => ?_)
    · rw [if_pos c] at h
      exact J.sub (ls' := []) [] rfl (hk58  m _ h)
    · rw [if_neg c] at h
      refine J.iload_n 3 d_M_letterOf_14 rfl rfl ?_
      refine J.aload_n 0 d_M_letterOf_15 rfl rfl ?_
      refine J.getF (n := 121) hG d_M_letterOf_16 fl_M_48 ck_109_34 rfl ?_
      refine J.iload 4 d_M_letterOf_19 rfl ?_
      refine J.nop (pc' := 21) rfl ?_
      obtain ⟨x1, ex1, g, h⟩ := jld_some h
      refine J.il hG d_M_letterOf_21 g ex1 ?_
      refine J.iload_n 1 d_M_letterOf_22 rfl rfl ?_
      refine J.icmp_ne 30 d_M_letterOf_23 rfl (fun c => ?_) (fun c => ?_)
      · rw [if_neg c] at h
        refine J.iconst (v := (0 : Int32)) d_M_letterOf_30 ki_0 ?_
        refine J.iadd d_M_letterOf_31 ?_
        refine J.istore_n (lv := [(3, .int (v3 + (0 : Int32))), (0, jr G 109), (1, .int v1), (2, .int v2), (4, .int v4)]) d_M_letterOf_32 rfl (by decide) rfl ?_
        refine J.iload_n 0 d_M_letterOf_33 rfl rfl ?_
        refine J.iload_n 3 d_M_letterOf_34 rfl rfl ?_
        refine J.icmp_ne 52 d_M_letterOf_35 rfl (fun c => ?_) (fun c => ?_)
        · rw [if_neg c] at h
          refine J.iinc 4 (v := (1 : Int32)) (lv := [(4, .int (v4 + (1 : Int32))), (3, .int (v3 + (0 : Int32))), (0, jr G 109), (1, .int v1), (2, .int v2)]) d_M_letterOf_52 rfl ki_1 (by decide) rfl ?_
          refine J.goto 5 d_M_letterOf_55 rfl ?_
          exact J.sub (ls' := [(0, jr G 109), (1, .int v1), (2, .int v2), (3, .int (v3 + (0 : Int32))), (4, .int (v4 + (1 : Int32)))]) [2, 3, 4, 1, 0] rfl (ih (v3 + (0 : Int32)) (v4 + (1 : Int32)) m _ h)
        · rw [if_pos c] at h
          refine J.aload_n 1 d_M_letterOf_38 rfl rfl ?_
          refine J.getF (n := 121) hG d_M_letterOf_39 fl_M_48 ck_109_34 rfl ?_
          refine J.nop (pc' := 42) rfl ?_
          refine J.iload 4 d_M_letterOf_42 rfl ?_
          obtain ⟨x2, ex2, g, h⟩ := jld_some h
          refine J.il hG d_M_letterOf_44 g ex2 ?_
          refine J.iload_n 2 d_M_letterOf_45 rfl rfl ?_
          refine J.icmp_ne 52 d_M_letterOf_46 rfl (fun c => ?_) (fun c => ?_)
          · rw [if_neg c] at h
            refine J.iinc 4 (v := (1 : Int32)) (lv := [(4, .int (v4 + (1 : Int32))), (3, .int (v3 + (0 : Int32))), (0, jr G 109), (1, .int v1), (2, .int v2)]) d_M_letterOf_52 rfl ki_1 (by decide) rfl ?_
            refine J.goto 5 d_M_letterOf_55 rfl ?_
            exact J.sub (ls' := [(0, jr G 109), (1, .int v1), (2, .int v2), (3, .int (v3 + (0 : Int32))), (4, .int (v4 + (1 : Int32)))]) [2, 3, 4, 1, 0] rfl (ih (v3 + (0 : Int32)) (v4 + (1 : Int32)) m _ h)
          · rw [if_pos c] at h
            exact J.sub (ls' := [(4, .int v4)]) [4] rfl (hk49 v4 m _ h)
      · rw [if_pos c] at h
        refine J.iconst (v := (1 : Int32)) d_M_letterOf_26 ki_1 ?_
        refine J.goto 31 d_M_letterOf_27 rfl ?_
        refine J.iadd d_M_letterOf_31 ?_
        refine J.istore_n (lv := [(3, .int (v3 + (1 : Int32))), (0, jr G 109), (1, .int v1), (2, .int v2), (4, .int v4)]) d_M_letterOf_32 rfl (by decide) rfl ?_
        refine J.iload_n 0 d_M_letterOf_33 rfl rfl ?_
        refine J.iload_n 3 d_M_letterOf_34 rfl rfl ?_
        refine J.icmp_ne 52 d_M_letterOf_35 rfl (fun c => ?_) (fun c => ?_)
        · rw [if_neg c] at h
          refine J.iinc 4 (v := (1 : Int32)) (lv := [(4, .int (v4 + (1 : Int32))), (3, .int (v3 + (1 : Int32))), (0, jr G 109), (1, .int v1), (2, .int v2)]) d_M_letterOf_52 rfl ki_1 (by decide) rfl ?_
          refine J.goto 5 d_M_letterOf_55 rfl ?_
          exact J.sub (ls' := [(0, jr G 109), (1, .int v1), (2, .int v2), (3, .int (v3 + (1 : Int32))), (4, .int (v4 + (1 : Int32)))]) [2, 3, 4, 1, 0] rfl (ih (v3 + (1 : Int32)) (v4 + (1 : Int32)) m _ h)
        · rw [if_pos c] at h
          refine J.aload_n 1 d_M_letterOf_38 rfl rfl ?_
          refine J.getF (n := 121) hG d_M_letterOf_39 fl_M_48 ck_109_34 rfl ?_
          refine J.iload 4 d_M_letterOf_42 rfl ?_
          refine J.nop (pc' := 44) rfl ?_
          obtain ⟨x3, ex3, g, h⟩ := jld_some h
          refine J.il hG d_M_letterOf_44 g ex3 ?_
          refine J.iload_n 2 d_M_letterOf_45 rfl rfl ?_
          refine J.icmp_ne 52 d_M_letterOf_46 rfl (fun c => ?_) (fun c => ?_)
          · rw [if_neg c] at h
            refine J.iinc 4 (v := (1 : Int32)) (lv := [(4, .int (v4 + (1 : Int32))), (3, .int (v3 + (1 : Int32))), (0, jr G 109), (1, .int v1), (2, .int v2)]) d_M_letterOf_52 rfl ki_1 (by decide) rfl ?_
            refine J.goto 5 d_M_letterOf_55 rfl ?_
            exact J.sub (ls' := [(0, jr G 109), (1, .int v1), (2, .int v2), (3, .int (v3 + (1 : Int32))), (4, .int (v4 + (1 : Int32)))]) [2, 3, 4, 1, 0] rfl (ih (v3 + (1 : Int32)) (v4 + (1 : Int32)) m _ h)
          · rw [if_pos c] at h
            exact J.sub (ls' := [(4, .int v4)]) [4] rfl (hk49 v4 m _ h)
theorem c_M_letterOf {G : jG} (hG : jFul G) {v1 : Int32} {v2 : Int32} {m : jMem} {r : (Int32 × jMem)} (h : f_M_letterOf v1 v2 m = some r) : jCt G Y_M_letterOf [jr G 109, .int v1, .int v2] m (jri r) := by
  refine jCt.ov (ls := [(0, jr G 109), (1, .int v1), (2, .int v2)]) mi_M_letterOf (jAvR (jAvI (jAvI jAvN))) (Nat.le_of_ble_eq_true rfl) ?_ ⟨rfl, rfl⟩
  unfold f_M_letterOf at h
  refine J.iconst (v := (0 : Int32)) d_M_letterOf_0 ki_0 ?_
  refine J.istore_n (lv := [(3, .int (0 : Int32)), (0, jr G 109), (1, .int v1), (2, .int v2)]) d_M_letterOf_1 rfl (by decide) rfl ?_
  refine J.iconst (v := (0 : Int32)) d_M_letterOf_2 ki_0 ?_
  refine J.istore (lv := [(4, .int (0 : Int32)), (3, .int (0 : Int32)), (0, jr G 109), (1, .int v1), (2, .int v2)]) d_M_letterOf_3 (by decide) rfl ?_
  refine J.sub (ls' := [(0, jr G 109), (1, .int v1), (2, .int v2), (3, .int (0 : Int32)), (4, .int (0 : Int32))]) [2, 3, 4, 1, 0] rfl ?_
  refine jlp_M_letterOf_5 hG v1 v2 _ _ ?_ ?_ _ (0 : Int32) (0 : Int32) m _ h
  · intro w5 m4 r h
    refine J.iload 0 d_M_letterOf_49 rfl ?_
    cases h
    exact J.iret d_M_letterOf_51 rfl (vp_nar_int _) rfl
  · intro m6 r h
    refine J.iconst (v := (-1 : Int32)) d_M_letterOf_58 ki_m1 ?_
    cases h
    exact J.iret d_M_letterOf_59 rfl (vp_nar_int _) rfl

def lp_M_isMore_2 (v1 : Int32) (v2 : Int32) (k22 : jMem → Option (Int32 × jMem)) (k30 : jMem → Option (Int32 × jMem)) : Nat → Int32 → jMem → Option (Int32 × jMem)
  | 0, _, _ => none
  | n + 1, v3, m =>
    if (6 : Int32) ≤ v3 then
      k30 m
    else
      jbd (f_M_numberOf v1 v3 m) fun x1 m2 =>
      jbd (f_M_listed v2 v3 m2) fun x3 m4 =>
      if x1 ≤ x3 then
        lp_M_isMore_2 v1 v2 k22 k30 n (v3 + (1 : Int32)) m4
      else
        k22 m4
def f_M_isMore (v1 : Int32) (v2 : Int32) (m : jMem) : Option (Int32 × jMem) :=
  lp_M_isMore_2 v1 v2 (fun m5 =>
    some ((1 : Int32), m5)) (fun m6 =>
    some ((0 : Int32), m6)) 5000 (0 : Int32) m
theorem jlp_M_isMore_2 {G : jG} (hG : jFul G) (v1 : Int32) (v2 : Int32) (k22 : jMem → Option (Int32 × jMem)) (k30 : jMem → Option (Int32 × jMem))
    (hk22 : ∀ (m : jMem) (r : (Int32 × jMem)), k22 m = some r → J G Y_M_isMore 22 [] [] m (jri r))
    (hk30 : ∀ (m : jMem) (r : (Int32 × jMem)), k30 m = some r → J G Y_M_isMore 30 [] [] m (jri r)) : ∀ (n : Nat) (v3 : Int32) (m : jMem) (r : (Int32 × jMem)), lp_M_isMore_2 v1 v2 k22 k30 n v3 m = some r → J G Y_M_isMore 2 [(0, jr G 109), (1, .int v1), (2, .int v2), (3, .int v3)] [] m (jri r) := by
  intro n
  induction n with
  | zero => intro v3 m r h; unfold lp_M_isMore_2 at h; cases h
  | succ n ih =>
    intro v3 m r h
    unfold lp_M_isMore_2 at h
    refine J.iload_n 3 d_M_isMore_2 rfl rfl ?_
    refine J.bipush (v := (6 : Int32)) d_M_isMore_3 kb_6 ?_
    refine J.icmp_ge 30 d_M_isMore_5 rfl (fun c => ?_) (fun c => ?_)
    · rw [if_pos c] at h
      exact J.sub (ls' := []) [] rfl (hk30  m _ h)
    · rw [if_neg c] at h
      refine J.aload_n 0 d_M_isMore_8 rfl rfl ?_
      refine J.iload_n 1 d_M_isMore_9 rfl rfl ?_
      refine J.iload_n 3 d_M_isMore_10 rfl rfl ?_
      obtain ⟨x1, m2, zm2, h⟩ := jbd_some h
      refine J.cVi Y_M_numberOf (As := [.int v1, .int v3]) (rest := []) hG d_M_isMore_11 mi_M_numberOf mv_M_numberOf lk_M_361 ⟨rfl, rfl, Nat.le_of_ble_eq_true rfl⟩ cq_109 cc_10 (c_M_numberOf hG zm2) rfl (Nat.le_trans jcN (Nat.le_of_ble_eq_true rfl)) ?_
      refine J.iload_n 2 d_M_isMore_14 rfl rfl ?_
      refine J.nop (pc' := 15) rfl ?_
      refine J.iload_n 3 d_M_isMore_15 rfl rfl ?_
      obtain ⟨x3, m4, zm4, h⟩ := jbd_some h
      refine J.cSi Y_M_listed (As := [.int v2, .int v3]) (rest := [.int x1]) d_M_isMore_16 mi_M_listed ms_M_listed lk_M_404 ⟨rfl, rfl, Nat.le_of_ble_eq_true rfl⟩ (c_M_listed hG zm4) rfl (Nat.le_trans (jcI jcN) (Nat.le_of_ble_eq_true rfl)) ?_
      refine J.icmp_le 24 d_M_isMore_19 rfl (fun c => ?_) (fun c => ?_)
      · rw [if_pos c] at h
        refine J.iinc 3 (v := (1 : Int32)) (lv := [(3, .int (v3 + (1 : Int32))), (0, jr G 109), (1, .int v1), (2, .int v2)]) d_M_isMore_24 rfl ki_1 (by decide) rfl ?_
        refine J.goto 2 d_M_isMore_27 rfl ?_
        exact J.sub (ls' := [(0, jr G 109), (1, .int v1), (2, .int v2), (3, .int (v3 + (1 : Int32)))]) [1, 2, 3, 0] rfl (ih (v3 + (1 : Int32)) m4 _ h)
      · rw [if_neg c] at h
        exact J.sub (ls' := []) [] rfl (hk22  m4 _ h)
theorem c_M_isMore {G : jG} (hG : jFul G) {v1 : Int32} {v2 : Int32} {m : jMem} {r : (Int32 × jMem)} (h : f_M_isMore v1 v2 m = some r) : jCt G Y_M_isMore [jr G 109, .int v1, .int v2] m (jri r) := by
  refine jCt.ov (ls := [(0, jr G 109), (1, .int v1), (2, .int v2)]) mi_M_isMore (jAvR (jAvI (jAvI jAvN))) (Nat.le_of_ble_eq_true rfl) ?_ ⟨rfl, rfl⟩
  unfold f_M_isMore at h
  refine J.iconst (v := (0 : Int32)) d_M_isMore_0 ki_0 ?_
  refine J.istore_n (lv := [(3, .int (0 : Int32)), (0, jr G 109), (1, .int v1), (2, .int v2)]) d_M_isMore_1 rfl (by decide) rfl ?_
  refine J.sub (ls' := [(0, jr G 109), (1, .int v1), (2, .int v2), (3, .int (0 : Int32))]) [1, 2, 3, 0] rfl ?_
  refine jlp_M_isMore_2 hG v1 v2 _ _ ?_ ?_ _ (0 : Int32) m _ h
  · intro m5 r h
    refine J.iconst (v := (1 : Int32)) d_M_isMore_22 ki_1 ?_
    cases h
    exact J.iret d_M_isMore_23 rfl rfl rfl
  · intro m6 r h
    refine J.iconst (v := (0 : Int32)) d_M_isMore_30 ki_0 ?_
    cases h
    exact J.iret d_M_isMore_31 rfl rfl rfl

def lp_M_forgedBy_3 (v1 : Int32) (v2 : Int32) (v3 : Int32) (k60 : jMem → Option (Int32 × jMem)) (k68 : jMem → Option (Int32 × jMem)) : Nat → Int32 → jMem → Option (Int32 × jMem)
  | 0, _, _ => none
  | n + 1, v4, m =>
    if (6 : Int32) ≤ v4 then
      k68 m
    else
      if v4 = v1 then
        jbd (f_M_manyBy v1 v2 m) fun x6 m7 =>
        jbd (f_M_listed v3 v4 m7) fun x8 m9 =>
        if x8 ≤ (x6 + (1 : Int32)) then
          lp_M_forgedBy_3 v1 v2 v3 k60 k68 n (v4 + (1 : Int32)) m9
        else
          k60 m9
      else
        jld 1 m 143 (((6 : Int32) * v4) + v1) fun x1 =>
        jbd (f_M_manyBy v4 (v2 - x1) m) fun x2 m3 =>
        jbd (f_M_listed v3 v4 m3) fun x4 m5 =>
        if x4 ≤ x2 then
          lp_M_forgedBy_3 v1 v2 v3 k60 k68 n (v4 + (1 : Int32)) m5
        else
          k60 m5
def lp_M_forgedBy_71 (v1 : Int32) (v2 : Int32) (v3 : Int32) (k138 : jMem → Option (Int32 × jMem)) (k146 : jMem → Option (Int32 × jMem)) : Nat → Int32 → jMem → Option (Int32 × jMem)
  | 0, _, _ => none
  | n + 1, v4, m =>
    if (6 : Int32) ≤ v4 then
      k146 m
    else
      jbd (f_M_listed v3 v4 m) fun x12 m13 =>
      if x12 = 0 then
        if (-1 : Int32) = (-1 : Int32) then
          lp_M_forgedBy_71 v1 v2 v3 k138 k146 n (v4 + (1 : Int32)) m13
        else
          if v4 = v1 then
            jld 1 m13 122 (-1 : Int32) fun x25 =>
            if v2 < x25 then
              lp_M_forgedBy_71 v1 v2 v3 k138 k146 n (v4 + (1 : Int32)) m13
            else
              jbd (f_M_isMore (-1 : Int32) v3 m13) fun x26 m27 =>
              if x26 = 0 then
                lp_M_forgedBy_71 v1 v2 v3 k138 k146 n (v4 + (1 : Int32)) m27
              else
                k138 m27
          else
            jbd (f_M_isMore (-1 : Int32) v3 m13) fun x23 m24 =>
            if x23 = 0 then
              lp_M_forgedBy_71 v1 v2 v3 k138 k146 n (v4 + (1 : Int32)) m24
            else
              k138 m24
      else
        jbd (f_M_listed v3 v4 m13) fun x14 m15 =>
        jbd (f_M_letterOf v4 x14 m15) fun x16 m17 =>
        if x16 = (-1 : Int32) then
          lp_M_forgedBy_71 v1 v2 v3 k138 k146 n (v4 + (1 : Int32)) m17
        else
          if v4 = v1 then
            jld 1 m17 122 x16 fun x20 =>
            if v2 < x20 then
              lp_M_forgedBy_71 v1 v2 v3 k138 k146 n (v4 + (1 : Int32)) m17
            else
              jbd (f_M_isMore x16 v3 m17) fun x21 m22 =>
              if x21 = 0 then
                lp_M_forgedBy_71 v1 v2 v3 k138 k146 n (v4 + (1 : Int32)) m22
              else
                k138 m22
          else
            jbd (f_M_isMore x16 v3 m17) fun x18 m19 =>
            if x18 = 0 then
              lp_M_forgedBy_71 v1 v2 v3 k138 k146 n (v4 + (1 : Int32)) m19
            else
              k138 m19
def f_M_forgedBy (v1 : Int32) (v2 : Int32) (v3 : Int32) (m : jMem) : Option (Int32 × jMem) :=
  lp_M_forgedBy_3 v1 v2 v3 (fun m10 =>
    some ((1 : Int32), m10)) (fun m11 =>
    lp_M_forgedBy_71 v1 v2 v3 (fun m28 =>
      some ((2 : Int32), m28)) (fun m29 =>
      jbd (f_M_manyBy v1 v2 m29) fun x30 m31 =>
      if x30 = 0 then
        if (-1 : Int32) = (-1 : Int32) then
          some ((0 : Int32), m31)
        else
          jbd (f_M_isMore (-1 : Int32) v3 m31) fun x38 m39 =>
          if x38 = 0 then
            some ((0 : Int32), m39)
          else
            some ((3 : Int32), m39)
      else
        jbd (f_M_manyBy v1 v2 m31) fun x32 m33 =>
        jbd (f_M_letterOf v1 x32 m33) fun x34 m35 =>
        if x34 = (-1 : Int32) then
          some ((0 : Int32), m35)
        else
          jbd (f_M_isMore x34 v3 m35) fun x36 m37 =>
          if x36 = 0 then
            some ((0 : Int32), m37)
          else
            some ((3 : Int32), m37)) 5000 (0 : Int32) m11) 5000 (0 : Int32) m
theorem jlp_M_forgedBy_3 {G : jG} (hG : jFul G) (v1 : Int32) (v2 : Int32) (v3 : Int32) (k60 : jMem → Option (Int32 × jMem)) (k68 : jMem → Option (Int32 × jMem))
    (hk60 : ∀ (m : jMem) (r : (Int32 × jMem)), k60 m = some r → J G Y_M_forgedBy 60 [] [] m (jri r))
    (hk68 : ∀ (m : jMem) (r : (Int32 × jMem)), k68 m = some r → J G Y_M_forgedBy 68 [(0, jr G 109), (1, .int v1), (2, .int v2), (3, .int v3)] [] m (jri r)) : ∀ (n : Nat) (v4 : Int32) (m : jMem) (r : (Int32 × jMem)), lp_M_forgedBy_3 v1 v2 v3 k60 k68 n v4 m = some r → J G Y_M_forgedBy 3 [(0, jr G 109), (1, .int v1), (2, .int v2), (3, .int v3), (4, .int v4)] [] m (jri r) := by
  intro n
  induction n with
  | zero => intro v4 m r h; unfold lp_M_forgedBy_3 at h; cases h
  | succ n ih =>
    intro v4 m r h
    unfold lp_M_forgedBy_3 at h
    refine J.iload 4 d_M_forgedBy_3 rfl ?_
    refine J.bipush (v := (6 : Int32)) d_M_forgedBy_5 kb_6 ?_
    refine J.icmp_ge 68 d_M_forgedBy_7 rfl (fun c => ?_) (fun c => ?_)
    · rw [if_pos c] at h
      exact J.sub (ls' := [(0, jr G 109), (1, .int v1), (2, .int v2), (3, .int v3)]) [0, 1, 2, 3] rfl (hk68  m _ h)
    · rw [if_neg c] at h
      refine J.iload 4 d_M_forgedBy_10 rfl ?_
      refine J.iload_n 1 d_M_forgedBy_12 rfl rfl ?_
      refine J.icmp_ne 27 d_M_forgedBy_13 rfl (fun c => ?_) (fun c => ?_)
      · rw [if_neg c] at h
        refine J.aload_n 0 d_M_forgedBy_27 rfl rfl ?_
        refine J.iload 4 d_M_forgedBy_28 rfl ?_
        refine J.iload_n 2 d_M_forgedBy_30 rfl rfl ?_
        refine J.aload_n 0 d_M_forgedBy_31 rfl rfl ?_
        refine J.getF (n := 143) hG d_M_forgedBy_32 fl_M_114 ck_109_63 rfl ?_
        refine J.bipush (v := (6 : Int32)) d_M_forgedBy_35 kb_6 ?_
        refine J.iload 4 d_M_forgedBy_37 rfl ?_
        refine J.imul d_M_forgedBy_39 ?_
        refine J.nop (pc' := 40) rfl ?_
        refine J.iload_n 1 d_M_forgedBy_40 rfl rfl ?_
        refine J.iadd d_M_forgedBy_41 ?_
        obtain ⟨x1, ex1, g, h⟩ := jld_some h
        refine J.il hG d_M_forgedBy_42 g ex1 ?_
        refine J.isub d_M_forgedBy_43 ?_
        obtain ⟨x2, m3, zm3, h⟩ := jbd_some h
        refine J.cVi Y_M_manyBy (As := [.int v4, .int (v2 - x1)]) (rest := []) hG d_M_forgedBy_44 mi_M_manyBy mv_M_manyBy lk_M_407 ⟨rfl, rfl, Nat.le_of_ble_eq_true rfl⟩ cq_109 cc_10 (c_M_manyBy hG zm3) rfl (Nat.le_trans jcN (Nat.le_of_ble_eq_true rfl)) ?_
        refine J.istore (lv := [(5, .int x2), (0, jr G 109), (1, .int v1), (2, .int v2), (3, .int v3), (4, .int v4)]) d_M_forgedBy_47 (by decide) rfl ?_
        refine J.iload_n 4 d_M_forgedBy_49 rfl rfl ?_
        refine J.iload 5 d_M_forgedBy_50 rfl ?_
        refine J.nop (pc' := 52) rfl ?_
        obtain ⟨x4, m5, zm5, h⟩ := jbd_some h
        refine J.cSi Y_M_listed (As := [.int v3, .int v4]) (rest := []) d_M_forgedBy_52 mi_M_listed ms_M_listed lk_M_404 ⟨rfl, rfl, Nat.le_of_ble_eq_true rfl⟩ (c_M_listed hG zm5) rfl (Nat.le_trans jcN (Nat.le_of_ble_eq_true rfl)) ?_
        refine J.iload 0 d_M_forgedBy_55 rfl ?_
        refine J.icmp_le 62 d_M_forgedBy_57 rfl (fun c => ?_) (fun c => ?_)
        · rw [if_pos c] at h
          refine J.iinc 5 (v := (1 : Int32)) (lv := [(4, .int (v4 + (1 : Int32))), (5, .int x2), (0, jr G 109), (1, .int v1), (2, .int v2), (3, .int v3)]) d_M_forgedBy_62 rfl ki_1 (by decide) rfl ?_
          refine J.goto 3 d_M_forgedBy_65 rfl ?_
          exact J.sub (ls' := [(0, jr G 109), (1, .int v1), (2, .int v2), (3, .int v3), (4, .int (v4 + (1 : Int32)))]) [2, 3, 4, 5, 0] rfl (ih (v4 + (1 : Int32)) m5 _ h)
        · rw [if_neg c] at h
          exact J.sub (ls' := []) [] rfl (hk60  m5 _ h)
      · rw [if_pos c] at h
        refine J.aload_n 0 d_M_forgedBy_16 rfl rfl ?_
        refine J.iload_n 1 d_M_forgedBy_17 rfl rfl ?_
        refine J.nop (pc' := 18) rfl ?_
        refine J.iload_n 2 d_M_forgedBy_18 rfl rfl ?_
        obtain ⟨x6, m7, zm7, h⟩ := jbd_some h
        refine J.cVi Y_M_manyBy (As := [.int v1, .int v2]) (rest := []) hG d_M_forgedBy_19 mi_M_manyBy mv_M_manyBy lk_M_407 ⟨rfl, rfl, Nat.le_of_ble_eq_true rfl⟩ cq_109 cc_10 (c_M_manyBy hG zm7) rfl (Nat.le_trans jcN (Nat.le_of_ble_eq_true rfl)) ?_
        refine J.iconst (v := (1 : Int32)) d_M_forgedBy_22 ki_1 ?_
        refine J.iadd d_M_forgedBy_23 ?_
        refine J.goto 47 d_M_forgedBy_24 rfl ?_
        refine J.istore (lv := [(5, .int (x6 + (1 : Int32))), (0, jr G 109), (1, .int v1), (2, .int v2), (3, .int v3), (4, .int v4)]) d_M_forgedBy_47 (by decide) rfl ?_
        refine J.iload_n 4 d_M_forgedBy_49 rfl rfl ?_
        refine J.iload 5 d_M_forgedBy_50 rfl ?_
        obtain ⟨x8, m9, zm9, h⟩ := jbd_some h
        refine J.cSi Y_M_listed (As := [.int v3, .int v4]) (rest := []) d_M_forgedBy_52 mi_M_listed ms_M_listed lk_M_404 ⟨rfl, rfl, Nat.le_of_ble_eq_true rfl⟩ (c_M_listed hG zm9) rfl (Nat.le_trans jcN (Nat.le_of_ble_eq_true rfl)) ?_
        refine J.iload 0 d_M_forgedBy_55 rfl ?_
        refine J.icmp_le 62 d_M_forgedBy_57 rfl (fun c => ?_) (fun c => ?_)
        · rw [if_pos c] at h
          refine J.iinc 5 (v := (1 : Int32)) (lv := [(4, .int (v4 + (1 : Int32))), (5, .int (x6 + (1 : Int32))), (0, jr G 109), (1, .int v1), (2, .int v2), (3, .int v3)]) d_M_forgedBy_62 rfl ki_1 (by decide) rfl ?_
          refine J.goto 3 d_M_forgedBy_65 rfl ?_
          exact J.sub (ls' := [(0, jr G 109), (1, .int v1), (2, .int v2), (3, .int v3), (4, .int (v4 + (1 : Int32)))]) [2, 3, 4, 5, 0] rfl (ih (v4 + (1 : Int32)) m9 _ h)
        · rw [if_neg c] at h
          exact J.sub (ls' := []) [] rfl (hk60  m9 _ h)
theorem jlp_M_forgedBy_71 {G : jG} (hG : jFul G) (v1 : Int32) (v2 : Int32) (v3 : Int32) (k138 : jMem → Option (Int32 × jMem)) (k146 : jMem → Option (Int32 × jMem))
    (hk138 : ∀ (m : jMem) (r : (Int32 × jMem)), k138 m = some r → J G Y_M_forgedBy 138 [] [] m (jri r))
    (hk146 : ∀ (m : jMem) (r : (Int32 × jMem)), k146 m = some r → J G Y_M_forgedBy 146 [(0, jr G 109), (1, .int v1), (2, .int v2), (3, .int v3)] [] m (jri r)) : ∀ (n : Nat) (v4 : Int32) (m : jMem) (r : (Int32 × jMem)), lp_M_forgedBy_71 v1 v2 v3 k138 k146 n v4 m = some r → J G Y_M_forgedBy 71 [(0, jr G 109), (1, .int v1), (2, .int v2), (3, .int v3), (4, .int v4)] [] m (jri r) := by
  intro n
  induction n with
  | zero => intro v4 m r h; unfold lp_M_forgedBy_71 at h; cases h
  | succ n ih =>
    intro v4 m r h
    unfold lp_M_forgedBy_71 at h
    refine J.iload 4 d_M_forgedBy_71 rfl ?_
    refine J.bipush (v := (6 : Int32)) d_M_forgedBy_73 kb_6 ?_
    refine J.icmp_ge 146 d_M_forgedBy_75 rfl (fun c => ?_) (fun c => ?_)
    · rw [if_pos c] at h
      exact J.sub (ls' := [(0, jr G 109), (1, .int v1), (2, .int v2), (3, .int v3)]) [0, 1, 2, 3] rfl (hk146  m _ h)
    · rw [if_neg c] at h
      refine J.iload_n 3 d_M_forgedBy_78 rfl rfl ?_
      refine J.iload 4 d_M_forgedBy_79 rfl ?_
      obtain ⟨x12, m13, zm13, h⟩ := jbd_some h
      refine J.cSi Y_M_listed (As := [.int v3, .int v4]) (rest := []) d_M_forgedBy_81 mi_M_listed ms_M_listed lk_M_404 ⟨rfl, rfl, Nat.le_of_ble_eq_true rfl⟩ (c_M_listed hG zm13) rfl (Nat.le_trans jcN (Nat.le_of_ble_eq_true rfl)) ?_
      refine J.if_ne 91 d_M_forgedBy_84 rfl (fun c => ?_) (fun c => ?_)
      · rw [if_neg c] at h
        refine J.aload_n 0 d_M_forgedBy_91 rfl rfl ?_
        refine J.iload 4 d_M_forgedBy_92 rfl ?_
        refine J.iload_n 3 d_M_forgedBy_94 rfl rfl ?_
        refine J.iload 4 d_M_forgedBy_95 rfl ?_
        obtain ⟨x14, m15, zm15, h⟩ := jbd_some h
        refine J.cSi Y_M_listed (As := [.int v3, .int v4]) (rest := [.int v4, jr G 109]) d_M_forgedBy_97 mi_M_listed ms_M_listed lk_M_404 ⟨rfl, rfl, Nat.le_of_ble_eq_true rfl⟩ (c_M_listed hG zm15) rfl (Nat.le_trans (jcI (jcR jcN)) (Nat.le_of_ble_eq_true rfl)) ?_
        obtain ⟨x16, m17, zm17, h⟩ := jbd_some h
        refine J.cVi Y_M_letterOf (As := [.int v4, .int x14]) (rest := []) hG d_M_forgedBy_100 mi_M_letterOf mv_M_letterOf lk_M_410 ⟨rfl, rfl, Nat.le_of_ble_eq_true rfl⟩ cq_109 cc_10 (c_M_letterOf hG zm17) rfl (Nat.le_trans jcN (Nat.le_of_ble_eq_true rfl)) ?_
        refine J.istore (lv := [(5, .int x16), (0, jr G 109), (1, .int v1), (2, .int v2), (3, .int v3), (4, .int v4)]) d_M_forgedBy_103 (by decide) rfl ?_
        refine J.iload 0 d_M_forgedBy_105 rfl ?_
        refine J.nop (pc' := 107) rfl ?_
        refine J.iconst (v := (-1 : Int32)) d_M_forgedBy_107 ki_m1 ?_
        refine J.icmp_eq 140 d_M_forgedBy_108 rfl (fun c => ?_) (fun c => ?_)
        · rw [if_pos c] at h
          refine J.iinc 5 (v := (1 : Int32)) (lv := [(4, .int (v4 + (1 : Int32))), (5, .int x16), (0, jr G 109), (1, .int v1), (2, .int v2), (3, .int v3)]) d_M_forgedBy_140 rfl ki_1 (by decide) rfl ?_
          refine J.goto 71 d_M_forgedBy_143 rfl ?_
          exact J.sub (ls' := [(0, jr G 109), (1, .int v1), (2, .int v2), (3, .int v3), (4, .int (v4 + (1 : Int32)))]) [2, 3, 4, 5, 0] rfl (ih (v4 + (1 : Int32)) m17 _ h)
        · rw [if_neg c] at h
          refine J.iload 5 d_M_forgedBy_111 rfl ?_
          refine J.iload_n 2 d_M_forgedBy_113 rfl rfl ?_
          refine J.icmp_ne 128 d_M_forgedBy_114 rfl (fun c => ?_) (fun c => ?_)
          · rw [if_neg c] at h
            refine J.aload_n 1 d_M_forgedBy_128 rfl rfl ?_
            refine J.iload 0 d_M_forgedBy_129 rfl ?_
            refine J.iload_n 4 d_M_forgedBy_131 rfl rfl ?_
            obtain ⟨x18, m19, zm19, h⟩ := jbd_some h
            refine J.cVi Y_M_isMore (As := [.int x16, .int v3]) (rest := []) hG d_M_forgedBy_132 mi_M_isMore mv_M_isMore lk_M_413 ⟨rfl, rfl, Nat.le_of_ble_eq_true rfl⟩ cq_109 cc_10 (c_M_isMore hG zm19) rfl (Nat.le_trans jcN (Nat.le_of_ble_eq_true rfl)) ?_
            refine J.if_eq 140 d_M_forgedBy_135 rfl (fun c => ?_) (fun c => ?_)
            · rw [if_pos c] at h
              refine J.iinc 5 (v := (1 : Int32)) (lv := [(4, .int (v4 + (1 : Int32))), (5, .int x16), (0, jr G 109), (1, .int v1), (2, .int v2), (3, .int v3)]) d_M_forgedBy_140 rfl ki_1 (by decide) rfl ?_
              refine J.goto 71 d_M_forgedBy_143 rfl ?_
              exact J.sub (ls' := [(0, jr G 109), (1, .int v1), (2, .int v2), (3, .int v3), (4, .int (v4 + (1 : Int32)))]) [2, 3, 4, 5, 0] rfl (ih (v4 + (1 : Int32)) m19 _ h)
            · rw [if_neg c] at h
              exact J.sub (ls' := []) [] rfl (hk138  m19 _ h)
          · rw [if_pos c] at h
            refine J.aload_n 1 d_M_forgedBy_117 rfl rfl ?_
            refine J.getF (n := 122) hG d_M_forgedBy_118 fl_M_51 ck_109_35 rfl ?_
            refine J.iload 0 d_M_forgedBy_121 rfl ?_
            refine J.nop (pc' := 123) rfl ?_
            obtain ⟨x20, ex20, g, h⟩ := jld_some h
            refine J.il hG d_M_forgedBy_123 g ex20 ?_
            refine J.iload_n 3 d_M_forgedBy_124 rfl rfl ?_
            refine J.icmp_gt 140 d_M_forgedBy_125 rfl (fun c => ?_) (fun c => ?_)
            · rw [if_pos c] at h
              refine J.iinc 5 (v := (1 : Int32)) (lv := [(4, .int (v4 + (1 : Int32))), (5, .int x16), (0, jr G 109), (1, .int v1), (2, .int v2), (3, .int v3)]) d_M_forgedBy_140 rfl ki_1 (by decide) rfl ?_
              refine J.goto 71 d_M_forgedBy_143 rfl ?_
              exact J.sub (ls' := [(0, jr G 109), (1, .int v1), (2, .int v2), (3, .int v3), (4, .int (v4 + (1 : Int32)))]) [2, 3, 4, 5, 0] rfl (ih (v4 + (1 : Int32)) m17 _ h)
            · rw [if_neg c] at h
              refine J.aload_n 1 d_M_forgedBy_128 rfl rfl ?_
              refine J.iload 0 d_M_forgedBy_129 rfl ?_
              refine J.iload_n 4 d_M_forgedBy_131 rfl rfl ?_
              obtain ⟨x21, m22, zm22, h⟩ := jbd_some h
              refine J.cVi Y_M_isMore (As := [.int x16, .int v3]) (rest := []) hG d_M_forgedBy_132 mi_M_isMore mv_M_isMore lk_M_413 ⟨rfl, rfl, Nat.le_of_ble_eq_true rfl⟩ cq_109 cc_10 (c_M_isMore hG zm22) rfl (Nat.le_trans jcN (Nat.le_of_ble_eq_true rfl)) ?_
              refine J.if_eq 140 d_M_forgedBy_135 rfl (fun c => ?_) (fun c => ?_)
              · rw [if_pos c] at h
                refine J.iinc 5 (v := (1 : Int32)) (lv := [(4, .int (v4 + (1 : Int32))), (5, .int x16), (0, jr G 109), (1, .int v1), (2, .int v2), (3, .int v3)]) d_M_forgedBy_140 rfl ki_1 (by decide) rfl ?_
                refine J.goto 71 d_M_forgedBy_143 rfl ?_
                exact J.sub (ls' := [(0, jr G 109), (1, .int v1), (2, .int v2), (3, .int v3), (4, .int (v4 + (1 : Int32)))]) [2, 3, 4, 5, 0] rfl (ih (v4 + (1 : Int32)) m22 _ h)
              · rw [if_neg c] at h
                exact J.sub (ls' := []) [] rfl (hk138  m22 _ h)
      · rw [if_pos c] at h
        refine J.iconst (v := (-1 : Int32)) d_M_forgedBy_87 ki_m1 ?_
        refine J.nop (pc' := 88) rfl ?_
        refine J.goto 103 d_M_forgedBy_88 rfl ?_
        refine J.istore (lv := [(5, .int (-1 : Int32)), (0, jr G 109), (1, .int v1), (2, .int v2), (3, .int v3), (4, .int v4)]) d_M_forgedBy_103 (by decide) rfl ?_
        refine J.iload 0 d_M_forgedBy_105 rfl ?_
        refine J.iconst (v := (-1 : Int32)) d_M_forgedBy_107 ki_m1 ?_
        refine J.icmp_eq 140 d_M_forgedBy_108 rfl (fun c => ?_) (fun c => ?_)
        · rw [if_pos c] at h
          refine J.iinc 5 (v := (1 : Int32)) (lv := [(4, .int (v4 + (1 : Int32))), (5, .int (-1 : Int32)), (0, jr G 109), (1, .int v1), (2, .int v2), (3, .int v3)]) d_M_forgedBy_140 rfl ki_1 (by decide) rfl ?_
          refine J.goto 71 d_M_forgedBy_143 rfl ?_
          exact J.sub (ls' := [(0, jr G 109), (1, .int v1), (2, .int v2), (3, .int v3), (4, .int (v4 + (1 : Int32)))]) [2, 3, 4, 5, 0] rfl (ih (v4 + (1 : Int32)) m13 _ h)
        · rw [if_neg c] at h
          refine J.iload 5 d_M_forgedBy_111 rfl ?_
          refine J.iload_n 2 d_M_forgedBy_113 rfl rfl ?_
          refine J.icmp_ne 128 d_M_forgedBy_114 rfl (fun c => ?_) (fun c => ?_)
          · rw [if_neg c] at h
            refine J.aload_n 1 d_M_forgedBy_128 rfl rfl ?_
            refine J.iload 0 d_M_forgedBy_129 rfl ?_
            refine J.iload_n 4 d_M_forgedBy_131 rfl rfl ?_
            obtain ⟨x23, m24, zm24, h⟩ := jbd_some h
            refine J.cVi Y_M_isMore (As := [.int (-1 : Int32), .int v3]) (rest := []) hG d_M_forgedBy_132 mi_M_isMore mv_M_isMore lk_M_413 ⟨rfl, rfl, Nat.le_of_ble_eq_true rfl⟩ cq_109 cc_10 (c_M_isMore hG zm24) rfl (Nat.le_trans jcN (Nat.le_of_ble_eq_true rfl)) ?_
            refine J.if_eq 140 d_M_forgedBy_135 rfl (fun c => ?_) (fun c => ?_)
            · rw [if_pos c] at h
              refine J.iinc 5 (v := (1 : Int32)) (lv := [(4, .int (v4 + (1 : Int32))), (5, .int (-1 : Int32)), (0, jr G 109), (1, .int v1), (2, .int v2), (3, .int v3)]) d_M_forgedBy_140 rfl ki_1 (by decide) rfl ?_
              refine J.goto 71 d_M_forgedBy_143 rfl ?_
              exact J.sub (ls' := [(0, jr G 109), (1, .int v1), (2, .int v2), (3, .int v3), (4, .int (v4 + (1 : Int32)))]) [2, 3, 4, 5, 0] rfl (ih (v4 + (1 : Int32)) m24 _ h)
            · rw [if_neg c] at h
              exact J.sub (ls' := []) [] rfl (hk138  m24 _ h)
          · rw [if_pos c] at h
            refine J.aload_n 1 d_M_forgedBy_117 rfl rfl ?_
            refine J.nop (pc' := 118) rfl ?_
            refine J.getF (n := 122) hG d_M_forgedBy_118 fl_M_51 ck_109_35 rfl ?_
            refine J.iload 0 d_M_forgedBy_121 rfl ?_
            obtain ⟨x25, ex25, g, h⟩ := jld_some h
            refine J.il hG d_M_forgedBy_123 g ex25 ?_
            refine J.iload_n 3 d_M_forgedBy_124 rfl rfl ?_
            refine J.icmp_gt 140 d_M_forgedBy_125 rfl (fun c => ?_) (fun c => ?_)
            · rw [if_pos c] at h
              refine J.iinc 5 (v := (1 : Int32)) (lv := [(4, .int (v4 + (1 : Int32))), (5, .int (-1 : Int32)), (0, jr G 109), (1, .int v1), (2, .int v2), (3, .int v3)]) d_M_forgedBy_140 rfl ki_1 (by decide) rfl ?_
              refine J.goto 71 d_M_forgedBy_143 rfl ?_
              exact J.sub (ls' := [(0, jr G 109), (1, .int v1), (2, .int v2), (3, .int v3), (4, .int (v4 + (1 : Int32)))]) [2, 3, 4, 5, 0] rfl (ih (v4 + (1 : Int32)) m13 _ h)
            · rw [if_neg c] at h
              refine J.aload_n 1 d_M_forgedBy_128 rfl rfl ?_
              refine J.iload 0 d_M_forgedBy_129 rfl ?_
              refine J.iload_n 4 d_M_forgedBy_131 rfl rfl ?_
              refine J.nop (pc' := 132) rfl ?_
              obtain ⟨x26, m27, zm27, h⟩ := jbd_some h
              refine J.cVi Y_M_isMore (As := [.int (-1 : Int32), .int v3]) (rest := []) hG d_M_forgedBy_132 mi_M_isMore mv_M_isMore lk_M_413 ⟨rfl, rfl, Nat.le_of_ble_eq_true rfl⟩ cq_109 cc_10 (c_M_isMore hG zm27) rfl (Nat.le_trans jcN (Nat.le_of_ble_eq_true rfl)) ?_
              refine J.if_eq 140 d_M_forgedBy_135 rfl (fun c => ?_) (fun c => ?_)
              · rw [if_pos c] at h
                refine J.iinc 5 (v := (1 : Int32)) (lv := [(4, .int (v4 + (1 : Int32))), (5, .int (-1 : Int32)), (0, jr G 109), (1, .int v1), (2, .int v2), (3, .int v3)]) d_M_forgedBy_140 rfl ki_1 (by decide) rfl ?_
                refine J.goto 71 d_M_forgedBy_143 rfl ?_
                exact J.sub (ls' := [(0, jr G 109), (1, .int v1), (2, .int v2), (3, .int v3), (4, .int (v4 + (1 : Int32)))]) [2, 3, 4, 5, 0] rfl (ih (v4 + (1 : Int32)) m27 _ h)
              · rw [if_neg c] at h
                exact J.sub (ls' := []) [] rfl (hk138  m27 _ h)
theorem c_M_forgedBy {G : jG} (hG : jFul G) {v1 : Int32} {v2 : Int32} {v3 : Int32} {m : jMem} {r : (Int32 × jMem)} (h : f_M_forgedBy v1 v2 v3 m = some r) : jCt G Y_M_forgedBy [jr G 109, .int v1, .int v2, .int v3] m (jri r) := by
  refine jCt.ov (ls := [(0, jr G 109), (1, .int v1), (2, .int v2), (3, .int v3)]) mi_M_forgedBy (jAvR (jAvI (jAvI (jAvI jAvN)))) (Nat.le_of_ble_eq_true rfl) ?_ ⟨rfl, rfl⟩
  unfold f_M_forgedBy at h
  refine J.iconst (v := (0 : Int32)) d_M_forgedBy_0 ki_0 ?_
  refine J.istore (lv := [(4, .int (0 : Int32)), (0, jr G 109), (1, .int v1), (2, .int v2), (3, .int v3)]) d_M_forgedBy_1 (by decide) rfl ?_
  refine J.sub (ls' := [(0, jr G 109), (1, .int v1), (2, .int v2), (3, .int v3), (4, .int (0 : Int32))]) [1, 2, 3, 4, 0] rfl ?_
  refine jlp_M_forgedBy_3 hG v1 v2 v3 _ _ ?_ ?_ _ (0 : Int32) m _ h
  · intro m10 r h
    refine J.iconst (v := (1 : Int32)) d_M_forgedBy_60 ki_1 ?_
    cases h
    exact J.iret d_M_forgedBy_61 rfl (vp_nar_int _) rfl
  · intro m11 r h
    refine J.iconst (v := (0 : Int32)) d_M_forgedBy_68 ki_0 ?_
    refine J.istore (lv := [(4, .int (0 : Int32)), (0, jr G 109), (1, .int v1), (2, .int v2), (3, .int v3)]) d_M_forgedBy_69 (by decide) rfl ?_
    refine J.sub (ls' := [(0, jr G 109), (1, .int v1), (2, .int v2), (3, .int v3), (4, .int (0 : Int32))]) [1, 2, 3, 4, 0] rfl ?_
    refine jlp_M_forgedBy_71 hG v1 v2 v3 _ _ ?_ ?_ _ (0 : Int32) m11 _ h
    · intro m28 r h
      refine J.iconst (v := (2 : Int32)) d_M_forgedBy_138 ki_2 ?_
      cases h
      exact J.iret d_M_forgedBy_139 rfl (vp_nar_int _) rfl
    · intro m29 r h
      refine J.aload_n 0 d_M_forgedBy_146 rfl rfl ?_
      refine J.iload_n 1 d_M_forgedBy_147 rfl rfl ?_
      refine J.iload_n 2 d_M_forgedBy_148 rfl rfl ?_
      obtain ⟨x30, m31, zm31, h⟩ := jbd_some h
      refine J.cVi Y_M_manyBy (As := [.int v1, .int v2]) (rest := []) hG d_M_forgedBy_149 mi_M_manyBy mv_M_manyBy lk_M_407 ⟨rfl, rfl, Nat.le_of_ble_eq_true rfl⟩ cq_109 cc_10 (c_M_manyBy hG zm31) rfl (Nat.le_trans jcN (Nat.le_of_ble_eq_true rfl)) ?_
      refine J.if_ne 159 d_M_forgedBy_152 rfl (fun c => ?_) (fun c => ?_)
      · rw [if_neg c] at h
        refine J.aload_n 0 d_M_forgedBy_159 rfl rfl ?_
        refine J.iload_n 1 d_M_forgedBy_160 rfl rfl ?_
        refine J.aload_n 0 d_M_forgedBy_161 rfl rfl ?_
        refine J.iload_n 1 d_M_forgedBy_162 rfl rfl ?_
        refine J.iload_n 2 d_M_forgedBy_163 rfl rfl ?_
        obtain ⟨x32, m33, zm33, h⟩ := jbd_some h
        refine J.cVi Y_M_manyBy (As := [.int v1, .int v2]) (rest := [.int v1, jr G 109]) hG d_M_forgedBy_164 mi_M_manyBy mv_M_manyBy lk_M_407 ⟨rfl, rfl, Nat.le_of_ble_eq_true rfl⟩ cq_109 cc_10 (c_M_manyBy hG zm33) rfl (Nat.le_trans (jcI (jcR jcN)) (Nat.le_of_ble_eq_true rfl)) ?_
        obtain ⟨x34, m35, zm35, h⟩ := jbd_some h
        refine J.cVi Y_M_letterOf (As := [.int v1, .int x32]) (rest := []) hG d_M_forgedBy_167 mi_M_letterOf mv_M_letterOf lk_M_410 ⟨rfl, rfl, Nat.le_of_ble_eq_true rfl⟩ cq_109 cc_10 (c_M_letterOf hG zm35) rfl (Nat.le_trans jcN (Nat.le_of_ble_eq_true rfl)) ?_
        refine J.istore (lv := [(4, .int x34), (0, jr G 109), (1, .int v1), (2, .int v2), (3, .int v3)]) d_M_forgedBy_170 (by decide) rfl ?_
        refine J.nop (pc' := 172) rfl ?_
        refine J.iload 0 d_M_forgedBy_172 rfl ?_
        refine J.iconst (v := (-1 : Int32)) d_M_forgedBy_174 ki_m1 ?_
        refine J.icmp_eq 192 d_M_forgedBy_175 rfl (fun c => ?_) (fun c => ?_)
        · rw [if_pos c] at h
          refine J.iconst (v := (0 : Int32)) d_M_forgedBy_192 ki_0 ?_
          cases h
          exact J.iret d_M_forgedBy_193 rfl (vp_nar_int _) rfl
        · rw [if_neg c] at h
          refine J.aload_n 1 d_M_forgedBy_178 rfl rfl ?_
          refine J.iload 0 d_M_forgedBy_179 rfl ?_
          refine J.iload_n 4 d_M_forgedBy_181 rfl rfl ?_
          obtain ⟨x36, m37, zm37, h⟩ := jbd_some h
          refine J.cVi Y_M_isMore (As := [.int x34, .int v3]) (rest := []) hG d_M_forgedBy_182 mi_M_isMore mv_M_isMore lk_M_413 ⟨rfl, rfl, Nat.le_of_ble_eq_true rfl⟩ cq_109 cc_10 (c_M_isMore hG zm37) rfl (Nat.le_trans jcN (Nat.le_of_ble_eq_true rfl)) ?_
          refine J.if_eq 192 d_M_forgedBy_185 rfl (fun c => ?_) (fun c => ?_)
          · rw [if_pos c] at h
            refine J.iconst (v := (0 : Int32)) d_M_forgedBy_192 ki_0 ?_
            cases h
            exact J.iret d_M_forgedBy_193 rfl (vp_nar_int _) rfl
          · rw [if_neg c] at h
            refine J.nop (pc' := 188) rfl ?_
            refine J.iconst (v := (3 : Int32)) d_M_forgedBy_188 ki_3 ?_
            refine J.goto 193 d_M_forgedBy_189 rfl ?_
            cases h
            exact J.iret d_M_forgedBy_193 rfl (vp_nar_int _) rfl
      · rw [if_pos c] at h
        refine J.iconst (v := (-1 : Int32)) d_M_forgedBy_155 ki_m1 ?_
        refine J.goto 170 d_M_forgedBy_156 rfl ?_
        refine J.istore (lv := [(4, .int (-1 : Int32)), (0, jr G 109), (1, .int v1), (2, .int v2), (3, .int v3)]) d_M_forgedBy_170 (by decide) rfl ?_
        refine J.iload 0 d_M_forgedBy_172 rfl ?_
        refine J.iconst (v := (-1 : Int32)) d_M_forgedBy_174 ki_m1 ?_
        refine J.icmp_eq 192 d_M_forgedBy_175 rfl (fun c => ?_) (fun c => ?_)
        · rw [if_pos c] at h
          refine J.iconst (v := (0 : Int32)) d_M_forgedBy_192 ki_0 ?_
          cases h
          exact J.iret d_M_forgedBy_193 rfl (vp_nar_int _) rfl
        · rw [if_neg c] at h
          refine J.aload_n 1 d_M_forgedBy_178 rfl rfl ?_
          refine J.iload 0 d_M_forgedBy_179 rfl ?_
          refine J.iload_n 4 d_M_forgedBy_181 rfl rfl ?_
          obtain ⟨x38, m39, zm39, h⟩ := jbd_some h
          refine J.cVi Y_M_isMore (As := [.int (-1 : Int32), .int v3]) (rest := []) hG d_M_forgedBy_182 mi_M_isMore mv_M_isMore lk_M_413 ⟨rfl, rfl, Nat.le_of_ble_eq_true rfl⟩ cq_109 cc_10 (c_M_isMore hG zm39) rfl (Nat.le_trans jcN (Nat.le_of_ble_eq_true rfl)) ?_
          refine J.nop (pc' := 185) rfl ?_
          refine J.if_eq 192 d_M_forgedBy_185 rfl (fun c => ?_) (fun c => ?_)
          · rw [if_pos c] at h
            refine J.iconst (v := (0 : Int32)) d_M_forgedBy_192 ki_0 ?_
            cases h
            exact J.iret d_M_forgedBy_193 rfl (vp_nar_int _) rfl
          · rw [if_neg c] at h
            refine J.iconst (v := (3 : Int32)) d_M_forgedBy_188 ki_3 ?_
            refine J.goto 193 d_M_forgedBy_189 rfl ?_
            cases h
            exact J.iret d_M_forgedBy_193 rfl (vp_nar_int _) rfl

def f_M_forged (v1 : Int32) (v2 : Int32) (v3 : Int32) (m : jMem) : Option (Int32 × jMem) :=
  jpu m 109 0 (0 : Int32) fun m1 =>
  jbd (f_M_isWriter v1 m1) fun x2 m3 =>
  if x2 = 0 then
    some ((-1 : Int32), m3)
  else
    if v2 < 0 then
      some ((-1 : Int32), m3)
    else
      if (m3 109 31) < v2 then
        some ((-1 : Int32), m3)
      else
        if 0 ≤ v3 then
          jbd (f_M_sums m3) fun u4 m5 =>
          jbd (f_M_forgedBy v1 v2 v3 m5) fun x6 m7 =>
          some (x6, m7)
        else
          some ((-1 : Int32), m3)
theorem c_M_forged {G : jG} (hG : jFul G) {v1 : Int32} {v2 : Int32} {v3 : Int32} {m : jMem} {r : (Int32 × jMem)} (h : f_M_forged v1 v2 v3 m = some r) : jCt G Y_M_forged [jr G 109, .int v1, .int v2, .int v3] m (jri r) := by
  refine jCt.ov (ls := [(0, jr G 109), (1, .int v1), (2, .int v2), (3, .int v3)]) mi_M_forged (jAvR (jAvI (jAvI (jAvI jAvN)))) (Nat.le_of_ble_eq_true rfl) ?_ ⟨rfl, rfl⟩
  unfold f_M_forged at h
  refine J.aload_n 0 d_M_forged_0 rfl rfl ?_
  refine J.iconst (v := (0 : Int32)) d_M_forged_1 ki_0 ?_
  obtain ⟨m1, hm1, h⟩ := jpu_some h
  refine J.putI hG d_M_forged_2 fl_M_132 fp_10_0 ck_109_0 hm1 ?_
  refine J.iload_n 1 d_M_forged_5 rfl rfl ?_
  obtain ⟨x2, m3, zm3, h⟩ := jbd_some h
  refine J.cSi Y_M_isWriter (As := [.int v1]) (rest := []) d_M_forged_6 mi_M_isWriter ms_M_isWriter lk_M_280 ⟨rfl, rfl, Nat.le_of_ble_eq_true rfl⟩ (c_M_isWriter hG zm3) rfl (Nat.le_trans jcN (Nat.le_of_ble_eq_true rfl)) ?_
  refine J.if_eq 28 d_M_forged_9 rfl (fun c => ?_) (fun c => ?_)
  · rw [if_pos c] at h
    refine J.iconst (v := (-1 : Int32)) d_M_forged_28 ki_m1 ?_
    cases h
    exact J.iret d_M_forged_29 rfl (vp_nar_int _) rfl
  · rw [if_neg c] at h
    refine J.iload_n 2 d_M_forged_12 rfl rfl ?_
    refine J.if_lt 28 d_M_forged_13 rfl (fun c => ?_) (fun c => ?_)
    · rw [if_pos c] at h
      refine J.iconst (v := (-1 : Int32)) d_M_forged_28 ki_m1 ?_
      cases h
      exact J.iret d_M_forged_29 rfl (vp_nar_int _) rfl
    · rw [if_neg c] at h
      refine J.nop (pc' := 16) rfl ?_
      refine J.iload_n 2 d_M_forged_16 rfl rfl ?_
      refine J.aload_n 0 d_M_forged_17 rfl rfl ?_
      refine J.getI hG d_M_forged_18 fl_M_295 ck_109_31 ?_
      refine J.icmp_gt 28 d_M_forged_21 rfl (fun c => ?_) (fun c => ?_)
      · rw [if_pos c] at h
        refine J.iconst (v := (-1 : Int32)) d_M_forged_28 ki_m1 ?_
        cases h
        exact J.iret d_M_forged_29 rfl (vp_nar_int _) rfl
      · rw [if_neg c] at h
        refine J.iload_n 3 d_M_forged_24 rfl rfl ?_
        refine J.if_ge 30 d_M_forged_25 rfl (fun c => ?_) (fun c => ?_)
        · rw [if_pos c] at h
          refine J.aload_n 0 d_M_forged_30 rfl rfl ?_
          obtain ⟨u4, m5, zm5, h⟩ := jbd_some h
          refine J.cVv Y_M_sums (As := []) (rest := []) hG d_M_forged_31 mi_M_sums mv_M_sums lk_M_402 ⟨rfl, rfl, Nat.le_of_ble_eq_true rfl⟩ cq_109 cc_10 (c_M_sums hG zm5) rfl (Nat.le_trans jcN (Nat.le_of_ble_eq_true rfl)) ?_
          refine J.aload_n 0 d_M_forged_34 rfl rfl ?_
          refine J.iload_n 1 d_M_forged_35 rfl rfl ?_
          refine J.iload_n 2 d_M_forged_36 rfl rfl ?_
          refine J.iload_n 3 d_M_forged_37 rfl rfl ?_
          obtain ⟨x6, m7, zm7, h⟩ := jbd_some h
          refine J.cVi Y_M_forgedBy (As := [.int v1, .int v2, .int v3]) (rest := []) hG d_M_forged_38 mi_M_forgedBy mv_M_forgedBy lk_M_416 ⟨rfl, rfl, Nat.le_of_ble_eq_true rfl⟩ cq_109 cc_10 (c_M_forgedBy hG zm7) rfl (Nat.le_trans jcN (Nat.le_of_ble_eq_true rfl)) ?_
          cases h
          exact J.iret d_M_forged_41 rfl (vp_nar_int _) rfl
        · rw [if_neg c] at h
          refine J.iconst (v := (-1 : Int32)) d_M_forged_28 ki_m1 ?_
          cases h
          exact J.iret d_M_forged_29 rfl (vp_nar_int _) rfl

def lp_M_forgers_32 (v1 : Int32) (v2 : Int32) (k63 : Int32 → jMem → Option (Int32 × jMem)) : Nat → Int32 → Int32 → jMem → Option (Int32 × jMem)
  | 0, _, _, _ => none
  | n + 1, v3, v4, m =>
    if (6 : Int32) ≤ v4 then
      k63 v3 m
    else
      jbd (f_M_forgedBy v4 v1 v2 m) fun x4 m5 =>
      if x4 = 0 then
        lp_M_forgers_32 v1 v2 k63 n (v3 ||| ((1 : Int32) <<< (v4 &&& 31))) (v4 + (1 : Int32)) m5
      else
        lp_M_forgers_32 v1 v2 k63 n v3 (v4 + (1 : Int32)) m5
def f_M_forgers (v1 : Int32) (v2 : Int32) (m : jMem) : Option (Int32 × jMem) :=
  jpu m 109 0 (0 : Int32) fun m1 =>
  if v1 < 0 then
    some ((-1 : Int32), m1)
  else
    if (m1 109 31) < v1 then
      some ((-1 : Int32), m1)
    else
      if 0 ≤ v2 then
        jbd (f_M_sums m1) fun u2 m3 =>
        lp_M_forgers_32 v1 v2 (fun w7 m6 =>
          some (w7, m6)) 5000 (0 : Int32) (0 : Int32) m3
      else
        some ((-1 : Int32), m1)
theorem jlp_M_forgers_32 {G : jG} (hG : jFul G) (v1 : Int32) (v2 : Int32) (k63 : Int32 → jMem → Option (Int32 × jMem))
    (hk63 : ∀ (v3 : Int32) (m : jMem) (r : (Int32 × jMem)), k63 v3 m = some r → J G Y_M_forgers 63 [(3, .int v3)] [] m (jri r)) : ∀ (n : Nat) (v3 : Int32) (v4 : Int32) (m : jMem) (r : (Int32 × jMem)), lp_M_forgers_32 v1 v2 k63 n v3 v4 m = some r → J G Y_M_forgers 32 [(0, jr G 109), (1, .int v1), (2, .int v2), (3, .int v3), (4, .int v4)] [] m (jri r) := by
  intro n
  induction n with
  | zero => intro v3 v4 m r h; unfold lp_M_forgers_32 at h; cases h
  | succ n ih =>
    intro v3 v4 m r h
    unfold lp_M_forgers_32 at h
    refine J.iload 4 d_M_forgers_32 rfl ?_
    refine J.bipush (v := (6 : Int32)) d_M_forgers_34 kb_6 ?_
    refine J.icmp_ge 63 d_M_forgers_36 rfl (fun c => ?_) (fun c => ?_)
    · rw [if_pos c] at h
      exact J.sub (ls' := [(3, .int v3)]) [3] rfl (hk63 v3 m _ h)
    · rw [if_neg c] at h
      refine J.aload_n 0 d_M_forgers_39 rfl rfl ?_
      refine J.iload 4 d_M_forgers_40 rfl ?_
      refine J.iload_n 1 d_M_forgers_42 rfl rfl ?_
      refine J.iload_n 2 d_M_forgers_43 rfl rfl ?_
      obtain ⟨x4, m5, zm5, h⟩ := jbd_some h
      refine J.cVi Y_M_forgedBy (As := [.int v4, .int v1, .int v2]) (rest := []) hG d_M_forgers_44 mi_M_forgedBy mv_M_forgedBy lk_M_416 ⟨rfl, rfl, Nat.le_of_ble_eq_true rfl⟩ cq_109 cc_10 (c_M_forgedBy hG zm5) rfl (Nat.le_trans jcN (Nat.le_of_ble_eq_true rfl)) ?_
      refine J.nop (pc' := 47) rfl ?_
      refine J.if_ne 57 d_M_forgers_47 rfl (fun c => ?_) (fun c => ?_)
      · rw [if_neg c] at h
        refine J.iinc 4 (v := (1 : Int32)) (lv := [(4, .int (v4 + (1 : Int32))), (0, jr G 109), (1, .int v1), (2, .int v2), (3, .int v3)]) d_M_forgers_57 rfl ki_1 (by decide) rfl ?_
        refine J.goto 32 d_M_forgers_60 rfl ?_
        exact J.sub (ls' := [(0, jr G 109), (1, .int v1), (2, .int v2), (3, .int v3), (4, .int (v4 + (1 : Int32)))]) [1, 2, 3, 4, 0] rfl (ih v3 (v4 + (1 : Int32)) m5 _ h)
      · rw [if_pos c] at h
        refine J.iload_n 3 d_M_forgers_50 rfl rfl ?_
        refine J.iconst (v := (1 : Int32)) d_M_forgers_51 ki_1 ?_
        refine J.iload 4 d_M_forgers_52 rfl ?_
        refine J.ishl d_M_forgers_54 ?_
        refine J.ior d_M_forgers_55 ?_
        refine J.istore_n (lv := [(3, .int (v3 ||| ((1 : Int32) <<< (v4 &&& 31)))), (0, jr G 109), (1, .int v1), (2, .int v2), (4, .int v4)]) d_M_forgers_56 rfl (by decide) rfl ?_
        refine J.iinc 4 (v := (1 : Int32)) (lv := [(4, .int (v4 + (1 : Int32))), (3, .int (v3 ||| ((1 : Int32) <<< (v4 &&& 31)))), (0, jr G 109), (1, .int v1), (2, .int v2)]) d_M_forgers_57 rfl ki_1 (by decide) rfl ?_
        refine J.nop (pc' := 60) rfl ?_
        refine J.goto 32 d_M_forgers_60 rfl ?_
        exact J.sub (ls' := [(0, jr G 109), (1, .int v1), (2, .int v2), (3, .int (v3 ||| ((1 : Int32) <<< (v4 &&& 31)))), (4, .int (v4 + (1 : Int32)))]) [2, 3, 4, 1, 0] rfl (ih (v3 ||| ((1 : Int32) <<< (v4 &&& 31))) (v4 + (1 : Int32)) m5 _ h)
theorem c_M_forgers {G : jG} (hG : jFul G) {v1 : Int32} {v2 : Int32} {m : jMem} {r : (Int32 × jMem)} (h : f_M_forgers v1 v2 m = some r) : jCt G Y_M_forgers [jr G 109, .int v1, .int v2] m (jri r) := by
  refine jCt.ov (ls := [(0, jr G 109), (1, .int v1), (2, .int v2)]) mi_M_forgers (jAvR (jAvI (jAvI jAvN))) (Nat.le_of_ble_eq_true rfl) ?_ ⟨rfl, rfl⟩
  unfold f_M_forgers at h
  refine J.aload_n 0 d_M_forgers_0 rfl rfl ?_
  refine J.iconst (v := (0 : Int32)) d_M_forgers_1 ki_0 ?_
  obtain ⟨m1, hm1, h⟩ := jpu_some h
  refine J.putI hG d_M_forgers_2 fl_M_132 fp_10_0 ck_109_0 hm1 ?_
  refine J.iload_n 1 d_M_forgers_5 rfl rfl ?_
  refine J.if_lt 21 d_M_forgers_6 rfl (fun c => ?_) (fun c => ?_)
  · rw [if_pos c] at h
    refine J.iconst (v := (-1 : Int32)) d_M_forgers_21 ki_m1 ?_
    cases h
    exact J.iret d_M_forgers_22 rfl (vp_nar_int _) rfl
  · rw [if_neg c] at h
    refine J.iload_n 1 d_M_forgers_9 rfl rfl ?_
    refine J.aload_n 0 d_M_forgers_10 rfl rfl ?_
    refine J.getI hG d_M_forgers_11 fl_M_295 ck_109_31 ?_
    refine J.nop (pc' := 14) rfl ?_
    refine J.icmp_gt 21 d_M_forgers_14 rfl (fun c => ?_) (fun c => ?_)
    · rw [if_pos c] at h
      refine J.iconst (v := (-1 : Int32)) d_M_forgers_21 ki_m1 ?_
      cases h
      exact J.iret d_M_forgers_22 rfl (vp_nar_int _) rfl
    · rw [if_neg c] at h
      refine J.iload_n 2 d_M_forgers_17 rfl rfl ?_
      refine J.if_ge 23 d_M_forgers_18 rfl (fun c => ?_) (fun c => ?_)
      · rw [if_pos c] at h
        refine J.aload_n 0 d_M_forgers_23 rfl rfl ?_
        obtain ⟨u2, m3, zm3, h⟩ := jbd_some h
        refine J.cVv Y_M_sums (As := []) (rest := []) hG d_M_forgers_24 mi_M_sums mv_M_sums lk_M_402 ⟨rfl, rfl, Nat.le_of_ble_eq_true rfl⟩ cq_109 cc_10 (c_M_sums hG zm3) rfl (Nat.le_trans jcN (Nat.le_of_ble_eq_true rfl)) ?_
        refine J.iconst (v := (0 : Int32)) d_M_forgers_27 ki_0 ?_
        refine J.istore_n (lv := [(3, .int (0 : Int32)), (0, jr G 109), (1, .int v1), (2, .int v2)]) d_M_forgers_28 rfl (by decide) rfl ?_
        refine J.iconst (v := (0 : Int32)) d_M_forgers_29 ki_0 ?_
        refine J.istore (lv := [(4, .int (0 : Int32)), (3, .int (0 : Int32)), (0, jr G 109), (1, .int v1), (2, .int v2)]) d_M_forgers_30 (by decide) rfl ?_
        refine J.sub (ls' := [(0, jr G 109), (1, .int v1), (2, .int v2), (3, .int (0 : Int32)), (4, .int (0 : Int32))]) [2, 3, 4, 1, 0] rfl ?_
        refine jlp_M_forgers_32 hG v1 v2 _ ?_ _ (0 : Int32) (0 : Int32) m3 _ h
        intro w7 m6 r h
        refine J.iload_n 0 d_M_forgers_63 rfl rfl ?_
        cases h
        exact J.iret d_M_forgers_64 rfl (vp_nar_int _) rfl
      · rw [if_neg c] at h
        refine J.iconst (v := (-1 : Int32)) d_M_forgers_21 ki_m1 ?_
        cases h
        exact J.iret d_M_forgers_22 rfl (vp_nar_int _) rfl

def lp_M_leads_19 (v2 : Int32) (v4 : Int32) (k53 : Int32 → jMem → Option (Int32 × jMem)) : Nat → Int32 → Int32 → jMem → Option (Int32 × jMem)
  | 0, _, _, _ => none
  | n + 1, v3, v5, m =>
    if (m 109 33) ≤ v5 then
      k53 v3 m
    else
      jld 1 m 128 v5 fun x1 =>
      if (x1 &&& v3) = 0 then
        lp_M_leads_19 v2 v4 k53 n v3 (v5 + (1 : Int32)) m
      else
        lp_M_leads_19 v2 v4 k53 n (v3 ||| ((1 : Int32) <<< (v5 &&& 31))) (v5 + (1 : Int32)) m
def lp_M_leads_56 (v2 : Int32) (v4 : Int32) (k98 : Int32 → jMem → Option (Int32 × jMem)) : Nat → Int32 → Int32 → jMem → Option (Int32 × jMem)
  | 0, _, _, _ => none
  | n + 1, v3, v5, m =>
    if (m 109 64) ≤ v5 then
      k98 v3 m
    else
      jld 1 m 144 v5 fun x4 =>
      if ((v3 >>> (x4 &&& 31)) &&& (1 : Int32)) = (1 : Int32) then
        jld 1 m 145 v5 fun x5 =>
        lp_M_leads_56 v2 v4 k98 n (v3 ||| ((1 : Int32) <<< (x5 &&& 31))) (v5 + (1 : Int32)) m
      else
        lp_M_leads_56 v2 v4 k98 n v3 (v5 + (1 : Int32)) m
def lp_M_leads_7 (v2 : Int32) (k101 : Int32 → jMem → Option (Int32 × jMem)) : Nat → Int32 → Int32 → jMem → Option (Int32 × jMem)
  | 0, _, _, _ => none
  | n + 1, v3, v4, m =>
    if v4 = v3 then
      k101 v3 m
    else
      lp_M_leads_19 v2 v3 (fun w3 m2 =>
        lp_M_leads_56 v2 v3 (fun w7 m6 =>
          lp_M_leads_7 v2 k101 n w7 v3 m6) 5000 w3 (0 : Int32) m2) 5000 v3 (0 : Int32) m
def f_M_leads (v1 : Int32) (v2 : Int32) (m : jMem) : Option (Int32 × jMem) :=
  lp_M_leads_7 v2 (fun w9 m8 =>
    if ((w9 >>> (v2 &&& 31)) &&& (1 : Int32)) = (1 : Int32) then
      some ((1 : Int32), m8)
    else
      some ((0 : Int32), m8)) 5000 ((1 : Int32) <<< (v1 &&& 31)) (0 : Int32) m
theorem jlp_M_leads_19 {G : jG} (hG : jFul G) (v2 : Int32) (v4 : Int32) (k53 : Int32 → jMem → Option (Int32 × jMem))
    (hk53 : ∀ (v3 : Int32) (m : jMem) (r : (Int32 × jMem)), k53 v3 m = some r → J G Y_M_leads 53 [(0, jr G 109), (2, .int v2), (3, .int v3), (4, .int v4)] [] m (jri r)) : ∀ (n : Nat) (v3 : Int32) (v5 : Int32) (m : jMem) (r : (Int32 × jMem)), lp_M_leads_19 v2 v4 k53 n v3 v5 m = some r → J G Y_M_leads 19 [(0, jr G 109), (2, .int v2), (3, .int v3), (4, .int v4), (5, .int v5)] [] m (jri r) := by
  intro n
  induction n with
  | zero => intro v3 v5 m r h; unfold lp_M_leads_19 at h; cases h
  | succ n ih =>
    intro v3 v5 m r h
    unfold lp_M_leads_19 at h
    refine J.iload 4 d_M_leads_19 rfl ?_
    refine J.aload_n 0 d_M_leads_21 rfl rfl ?_
    refine J.getI hG d_M_leads_22 fl_M_277 ck_109_33 ?_
    refine J.icmp_ge 53 d_M_leads_25 rfl (fun c => ?_) (fun c => ?_)
    · rw [if_pos c] at h
      exact J.sub (ls' := [(0, jr G 109), (2, .int v2), (3, .int v3), (4, .int v4)]) [0, 1, 2, 3] rfl (hk53 v3 m _ h)
    · rw [if_neg c] at h
      refine J.aload_n 0 d_M_leads_28 rfl rfl ?_
      refine J.getF (n := 128) hG d_M_leads_29 fl_M_69 ck_109_41 rfl ?_
      refine J.iload 4 d_M_leads_32 rfl ?_
      obtain ⟨x1, ex1, g, h⟩ := jld_some h
      refine J.il hG d_M_leads_34 g ex1 ?_
      refine J.nop (pc' := 35) rfl ?_
      refine J.iload_n 2 d_M_leads_35 rfl rfl ?_
      refine J.iand d_M_leads_36 ?_
      refine J.if_eq 47 d_M_leads_37 rfl (fun c => ?_) (fun c => ?_)
      · rw [if_pos c] at h
        refine J.iinc 4 (v := (1 : Int32)) (lv := [(5, .int (v5 + (1 : Int32))), (0, jr G 109), (2, .int v2), (3, .int v3), (4, .int v4)]) d_M_leads_47 rfl ki_1 (by decide) rfl ?_
        refine J.goto 19 d_M_leads_50 rfl ?_
        exact J.sub (ls' := [(0, jr G 109), (2, .int v2), (3, .int v3), (4, .int v4), (5, .int (v5 + (1 : Int32)))]) [1, 2, 3, 4, 0] rfl (ih v3 (v5 + (1 : Int32)) m _ h)
      · rw [if_neg c] at h
        refine J.iload_n 2 d_M_leads_40 rfl rfl ?_
        refine J.iconst (v := (1 : Int32)) d_M_leads_41 ki_1 ?_
        refine J.iload 4 d_M_leads_42 rfl ?_
        refine J.ishl d_M_leads_44 ?_
        refine J.ior d_M_leads_45 ?_
        refine J.nop (pc' := 46) rfl ?_
        refine J.istore_n (lv := [(3, .int (v3 ||| ((1 : Int32) <<< (v5 &&& 31)))), (0, jr G 109), (2, .int v2), (4, .int v4), (5, .int v5)]) d_M_leads_46 rfl (by decide) rfl ?_
        refine J.iinc 4 (v := (1 : Int32)) (lv := [(5, .int (v5 + (1 : Int32))), (3, .int (v3 ||| ((1 : Int32) <<< (v5 &&& 31)))), (0, jr G 109), (2, .int v2), (4, .int v4)]) d_M_leads_47 rfl ki_1 (by decide) rfl ?_
        refine J.goto 19 d_M_leads_50 rfl ?_
        exact J.sub (ls' := [(0, jr G 109), (2, .int v2), (3, .int (v3 ||| ((1 : Int32) <<< (v5 &&& 31)))), (4, .int v4), (5, .int (v5 + (1 : Int32)))]) [2, 3, 1, 4, 0] rfl (ih (v3 ||| ((1 : Int32) <<< (v5 &&& 31))) (v5 + (1 : Int32)) m _ h)
theorem jlp_M_leads_56 {G : jG} (hG : jFul G) (v2 : Int32) (v4 : Int32) (k98 : Int32 → jMem → Option (Int32 × jMem))
    (hk98 : ∀ (v3 : Int32) (m : jMem) (r : (Int32 × jMem)), k98 v3 m = some r → J G Y_M_leads 98 [(0, jr G 109), (2, .int v2), (3, .int v3), (4, .int v4)] [] m (jri r)) : ∀ (n : Nat) (v3 : Int32) (v5 : Int32) (m : jMem) (r : (Int32 × jMem)), lp_M_leads_56 v2 v4 k98 n v3 v5 m = some r → J G Y_M_leads 56 [(0, jr G 109), (2, .int v2), (3, .int v3), (4, .int v4), (5, .int v5)] [] m (jri r) := by
  intro n
  induction n with
  | zero => intro v3 v5 m r h; unfold lp_M_leads_56 at h; cases h
  | succ n ih =>
    intro v3 v5 m r h
    unfold lp_M_leads_56 at h
    refine J.iload 4 d_M_leads_56 rfl ?_
    refine J.aload_n 0 d_M_leads_58 rfl rfl ?_
    refine J.getI hG d_M_leads_59 fl_M_419 ck_109_64 ?_
    refine J.icmp_ge 98 d_M_leads_62 rfl (fun c => ?_) (fun c => ?_)
    · rw [if_pos c] at h
      exact J.sub (ls' := [(0, jr G 109), (2, .int v2), (3, .int v3), (4, .int v4)]) [0, 1, 2, 3] rfl (hk98 v3 m _ h)
    · rw [if_neg c] at h
      refine J.iload_n 2 d_M_leads_65 rfl rfl ?_
      refine J.aload_n 0 d_M_leads_66 rfl rfl ?_
      refine J.getF (n := 144) hG d_M_leads_67 fl_M_117 ck_109_65 rfl ?_
      refine J.iload 4 d_M_leads_70 rfl ?_
      refine J.nop (pc' := 72) rfl ?_
      obtain ⟨x4, ex4, g, h⟩ := jld_some h
      refine J.il hG d_M_leads_72 g ex4 ?_
      refine J.ishr d_M_leads_73 ?_
      refine J.iconst (v := (1 : Int32)) d_M_leads_74 ki_1 ?_
      refine J.iand d_M_leads_75 ?_
      refine J.iconst (v := (1 : Int32)) d_M_leads_76 ki_1 ?_
      refine J.icmp_ne 92 d_M_leads_77 rfl (fun c => ?_) (fun c => ?_)
      · rw [if_neg c] at h
        refine J.iinc 4 (v := (1 : Int32)) (lv := [(5, .int (v5 + (1 : Int32))), (0, jr G 109), (2, .int v2), (3, .int v3), (4, .int v4)]) d_M_leads_92 rfl ki_1 (by decide) rfl ?_
        refine J.goto 56 d_M_leads_95 rfl ?_
        exact J.sub (ls' := [(0, jr G 109), (2, .int v2), (3, .int v3), (4, .int v4), (5, .int (v5 + (1 : Int32)))]) [1, 2, 3, 4, 0] rfl (ih v3 (v5 + (1 : Int32)) m _ h)
      · rw [if_pos c] at h
        refine J.iload_n 2 d_M_leads_80 rfl rfl ?_
        refine J.iconst (v := (1 : Int32)) d_M_leads_81 ki_1 ?_
        refine J.nop (pc' := 82) rfl ?_
        refine J.aload_n 0 d_M_leads_82 rfl rfl ?_
        refine J.getF (n := 145) hG d_M_leads_83 fl_M_120 ck_109_66 rfl ?_
        refine J.iload 4 d_M_leads_86 rfl ?_
        obtain ⟨x5, ex5, g, h⟩ := jld_some h
        refine J.il hG d_M_leads_88 g ex5 ?_
        refine J.ishl d_M_leads_89 ?_
        refine J.ior d_M_leads_90 ?_
        refine J.istore_n (lv := [(3, .int (v3 ||| ((1 : Int32) <<< (x5 &&& 31)))), (0, jr G 109), (2, .int v2), (4, .int v4), (5, .int v5)]) d_M_leads_91 rfl (by decide) rfl ?_
        refine J.iinc 4 (v := (1 : Int32)) (lv := [(5, .int (v5 + (1 : Int32))), (3, .int (v3 ||| ((1 : Int32) <<< (x5 &&& 31)))), (0, jr G 109), (2, .int v2), (4, .int v4)]) d_M_leads_92 rfl ki_1 (by decide) rfl ?_
        refine J.nop (pc' := 95) rfl ?_
        refine J.goto 56 d_M_leads_95 rfl ?_
        exact J.sub (ls' := [(0, jr G 109), (2, .int v2), (3, .int (v3 ||| ((1 : Int32) <<< (x5 &&& 31)))), (4, .int v4), (5, .int (v5 + (1 : Int32)))]) [2, 3, 1, 4, 0] rfl (ih (v3 ||| ((1 : Int32) <<< (x5 &&& 31))) (v5 + (1 : Int32)) m _ h)
theorem jlp_M_leads_7 {G : jG} (hG : jFul G) (v2 : Int32) (k101 : Int32 → jMem → Option (Int32 × jMem))
    (hk101 : ∀ (v3 : Int32) (m : jMem) (r : (Int32 × jMem)), k101 v3 m = some r → J G Y_M_leads 101 [(2, .int v2), (3, .int v3)] [] m (jri r)) : ∀ (n : Nat) (v3 : Int32) (v4 : Int32) (m : jMem) (r : (Int32 × jMem)), lp_M_leads_7 v2 k101 n v3 v4 m = some r → J G Y_M_leads 7 [(0, jr G 109), (2, .int v2), (3, .int v3), (4, .int v4)] [] m (jri r) := by
  intro n
  induction n with
  | zero => intro v3 v4 m r h; unfold lp_M_leads_7 at h; cases h
  | succ n ih =>
    intro v3 v4 m r h
    unfold lp_M_leads_7 at h
    refine J.iload 3 d_M_leads_7 rfl ?_
    refine J.iload_n 2 d_M_leads_9 rfl rfl ?_
    refine J.icmp_eq 101 d_M_leads_10 rfl (fun c => ?_) (fun c => ?_)
    · rw [if_pos c] at h
      exact J.sub (ls' := [(2, .int v2), (3, .int v3)]) [1, 2] rfl (hk101 v3 m _ h)
    · rw [if_neg c] at h
      refine J.iload_n 2 d_M_leads_13 rfl rfl ?_
      refine J.istore (lv := [(4, .int v3), (0, jr G 109), (2, .int v2), (3, .int v3)]) d_M_leads_14 (by decide) rfl ?_
      refine J.iconst (v := (0 : Int32)) d_M_leads_16 ki_0 ?_
      refine J.istore (lv := [(5, .int (0 : Int32)), (4, .int v3), (0, jr G 109), (2, .int v2), (3, .int v3)]) d_M_leads_17 (by decide) rfl ?_
      refine J.sub (ls' := [(0, jr G 109), (2, .int v2), (3, .int v3), (4, .int v3), (5, .int (0 : Int32))]) [2, 3, 4, 1, 0] rfl ?_
      refine jlp_M_leads_19 hG v2 v3 _ ?_ _ v3 (0 : Int32) m _ h
      intro w3 m2 r h
      refine J.iconst (v := (0 : Int32)) d_M_leads_53 ki_0 ?_
      refine J.istore (lv := [(5, .int (0 : Int32)), (0, jr G 109), (2, .int v2), (3, .int w3), (4, .int v3)]) d_M_leads_54 (by decide) rfl ?_
      refine J.sub (ls' := [(0, jr G 109), (2, .int v2), (3, .int w3), (4, .int v3), (5, .int (0 : Int32))]) [1, 2, 3, 4, 0] rfl ?_
      refine jlp_M_leads_56 hG v2 v3 _ ?_ _ w3 (0 : Int32) m2 _ h
      intro w7 m6 r h
      refine J.goto 7 d_M_leads_98 rfl ?_
      exact J.sub (ls' := [(0, jr G 109), (2, .int v2), (3, .int w7), (4, .int v3)]) [0, 1, 2, 3] rfl (ih w7 v3 m6 _ h)
theorem c_M_leads {G : jG} (hG : jFul G) {v1 : Int32} {v2 : Int32} {m : jMem} {r : (Int32 × jMem)} (h : f_M_leads v1 v2 m = some r) : jCt G Y_M_leads [jr G 109, .int v1, .int v2] m (jri r) := by
  refine jCt.ov (ls := [(0, jr G 109), (1, .int v1), (2, .int v2)]) mi_M_leads (jAvR (jAvI (jAvI jAvN))) (Nat.le_of_ble_eq_true rfl) ?_ ⟨rfl, rfl⟩
  unfold f_M_leads at h
  refine J.iconst (v := (1 : Int32)) d_M_leads_0 ki_1 ?_
  refine J.iload_n 1 d_M_leads_1 rfl rfl ?_
  refine J.ishl d_M_leads_2 ?_
  refine J.istore_n (lv := [(3, .int ((1 : Int32) <<< (v1 &&& 31))), (0, jr G 109), (1, .int v1), (2, .int v2)]) d_M_leads_3 rfl (by decide) rfl ?_
  refine J.iconst (v := (0 : Int32)) d_M_leads_4 ki_0 ?_
  refine J.istore (lv := [(4, .int (0 : Int32)), (3, .int ((1 : Int32) <<< (v1 &&& 31))), (0, jr G 109), (1, .int v1), (2, .int v2)]) d_M_leads_5 (by decide) rfl ?_
  refine J.sub (ls' := [(0, jr G 109), (2, .int v2), (3, .int ((1 : Int32) <<< (v1 &&& 31))), (4, .int (0 : Int32))]) [2, 4, 1, 0] rfl ?_
  refine jlp_M_leads_7 hG v2 _ ?_ _ ((1 : Int32) <<< (v1 &&& 31)) (0 : Int32) m _ h
  intro w9 m8 r h
  refine J.iload_n 1 d_M_leads_101 rfl rfl ?_
  refine J.iload_n 0 d_M_leads_102 rfl rfl ?_
  refine J.ishr d_M_leads_103 ?_
  refine J.iconst (v := (1 : Int32)) d_M_leads_104 ki_1 ?_
  refine J.iand d_M_leads_105 ?_
  refine J.iconst (v := (1 : Int32)) d_M_leads_106 ki_1 ?_
  refine J.icmp_ne 114 d_M_leads_107 rfl (fun c => ?_) (fun c => ?_)
  · rw [if_neg c] at h
    refine J.iconst (v := (0 : Int32)) d_M_leads_114 ki_0 ?_
    cases h
    exact J.iret d_M_leads_115 rfl rfl rfl
  · rw [if_pos c] at h
    refine J.iconst (v := (1 : Int32)) d_M_leads_110 ki_1 ?_
    refine J.nop (pc' := 111) rfl ?_
    refine J.goto 115 d_M_leads_111 rfl ?_
    cases h
    exact J.iret d_M_leads_115 rfl rfl rfl

def f_M_ahead (v1 : Int32) (v2 : Int32) (m : jMem) : Option (Int32 × jMem) :=
  jpu m 109 0 (0 : Int32) fun m1 =>
  jbd (f_M_isLetter v1 m1) fun x2 m3 =>
  if x2 = 0 then
    some ((-1 : Int32), m3)
  else
    jbd (f_M_isLetter v2 m3) fun x4 m5 =>
    if x4 = 0 then
      some ((-1 : Int32), m5)
    else
      if v1 = v2 then
        some ((-1 : Int32), m5)
      else
        if (m5 109 64) = (12 : Int32) then
          some ((-1 : Int32), m5)
        else
          jbd (f_M_leads v2 v1 m5) fun x6 m7 =>
          if x6 = 0 then
            jst 1 m7 144 (m7 109 64) v1 fun m8 =>
            jst 1 m8 145 (m8 109 64) v2 fun m9 =>
            jpu m9 109 64 ((m9 109 64) + (1 : Int32)) fun m10 =>
            some ((m10 109 64), m10)
          else
            some ((-1 : Int32), m7)
theorem c_M_ahead {G : jG} (hG : jFul G) {v1 : Int32} {v2 : Int32} {m : jMem} {r : (Int32 × jMem)} (h : f_M_ahead v1 v2 m = some r) : jCt G Y_M_ahead [jr G 109, .int v1, .int v2] m (jri r) := by
  refine jCt.ov (ls := [(0, jr G 109), (1, .int v1), (2, .int v2)]) mi_M_ahead (jAvR (jAvI (jAvI jAvN))) (Nat.le_of_ble_eq_true rfl) ?_ ⟨rfl, rfl⟩
  unfold f_M_ahead at h
  refine J.aload_n 0 d_M_ahead_0 rfl rfl ?_
  refine J.iconst (v := (0 : Int32)) d_M_ahead_1 ki_0 ?_
  obtain ⟨m1, hm1, h⟩ := jpu_some h
  refine J.putI hG d_M_ahead_2 fl_M_132 fp_10_0 ck_109_0 hm1 ?_
  refine J.aload_n 0 d_M_ahead_5 rfl rfl ?_
  refine J.iload_n 1 d_M_ahead_6 rfl rfl ?_
  obtain ⟨x2, m3, zm3, h⟩ := jbd_some h
  refine J.cVi Y_M_isLetter (As := [.int v1]) (rest := []) hG d_M_ahead_7 mi_M_isLetter mv_M_isLetter lk_M_309 ⟨rfl, rfl, Nat.le_of_ble_eq_true rfl⟩ cq_109 cc_10 (c_M_isLetter hG zm3) rfl (Nat.le_trans jcN (Nat.le_of_ble_eq_true rfl)) ?_
  refine J.if_eq 44 d_M_ahead_10 rfl (fun c => ?_) (fun c => ?_)
  · rw [if_pos c] at h
    refine J.iconst (v := (-1 : Int32)) d_M_ahead_44 ki_m1 ?_
    cases h
    exact J.iret d_M_ahead_45 rfl (vp_nar_int _) rfl
  · rw [if_neg c] at h
    refine J.aload_n 0 d_M_ahead_13 rfl rfl ?_
    refine J.nop (pc' := 14) rfl ?_
    refine J.iload_n 2 d_M_ahead_14 rfl rfl ?_
    obtain ⟨x4, m5, zm5, h⟩ := jbd_some h
    refine J.cVi Y_M_isLetter (As := [.int v2]) (rest := []) hG d_M_ahead_15 mi_M_isLetter mv_M_isLetter lk_M_309 ⟨rfl, rfl, Nat.le_of_ble_eq_true rfl⟩ cq_109 cc_10 (c_M_isLetter hG zm5) rfl (Nat.le_trans jcN (Nat.le_of_ble_eq_true rfl)) ?_
    refine J.if_eq 44 d_M_ahead_18 rfl (fun c => ?_) (fun c => ?_)
    · rw [if_pos c] at h
      refine J.iconst (v := (-1 : Int32)) d_M_ahead_44 ki_m1 ?_
      cases h
      exact J.iret d_M_ahead_45 rfl (vp_nar_int _) rfl
    · rw [if_neg c] at h
      refine J.iload_n 1 d_M_ahead_21 rfl rfl ?_
      refine J.iload_n 2 d_M_ahead_22 rfl rfl ?_
      refine J.icmp_eq 44 d_M_ahead_23 rfl (fun c => ?_) (fun c => ?_)
      · rw [if_pos c] at h
        refine J.iconst (v := (-1 : Int32)) d_M_ahead_44 ki_m1 ?_
        cases h
        exact J.iret d_M_ahead_45 rfl (vp_nar_int _) rfl
      · rw [if_neg c] at h
        refine J.aload_n 0 d_M_ahead_26 rfl rfl ?_
        refine J.getI hG d_M_ahead_27 fl_M_419 ck_109_64 ?_
        refine J.nop (pc' := 30) rfl ?_
        refine J.bipush (v := (12 : Int32)) d_M_ahead_30 kb_12 ?_
        refine J.icmp_eq 44 d_M_ahead_32 rfl (fun c => ?_) (fun c => ?_)
        · rw [if_pos c] at h
          refine J.iconst (v := (-1 : Int32)) d_M_ahead_44 ki_m1 ?_
          cases h
          exact J.iret d_M_ahead_45 rfl (vp_nar_int _) rfl
        · rw [if_neg c] at h
          refine J.aload_n 0 d_M_ahead_35 rfl rfl ?_
          refine J.iload_n 2 d_M_ahead_36 rfl rfl ?_
          refine J.iload_n 1 d_M_ahead_37 rfl rfl ?_
          obtain ⟨x6, m7, zm7, h⟩ := jbd_some h
          refine J.cVi Y_M_leads (As := [.int v2, .int v1]) (rest := []) hG d_M_ahead_38 mi_M_leads mv_M_leads lk_M_422 ⟨rfl, rfl, Nat.le_of_ble_eq_true rfl⟩ cq_109 cc_10 (c_M_leads hG zm7) rfl (Nat.le_trans jcN (Nat.le_of_ble_eq_true rfl)) ?_
          refine J.if_eq 46 d_M_ahead_41 rfl (fun c => ?_) (fun c => ?_)
          · rw [if_pos c] at h
            refine J.aload_n 0 d_M_ahead_46 rfl rfl ?_
            refine J.getF (n := 144) hG d_M_ahead_47 fl_M_117 ck_109_65 rfl ?_
            refine J.aload_n 0 d_M_ahead_50 rfl rfl ?_
            refine J.getI hG d_M_ahead_51 fl_M_419 ck_109_64 ?_
            refine J.iload_n 1 d_M_ahead_54 rfl rfl ?_
            obtain ⟨m8, hm8, g, h⟩ := jst_some h
            refine J.is hG d_M_ahead_55 g hm8 ?_
            refine J.aload_n 0 d_M_ahead_56 rfl rfl ?_
            refine J.getF (n := 145) hG d_M_ahead_57 fl_M_120 ck_109_66 rfl ?_
            refine J.nop (pc' := 60) rfl ?_
            refine J.aload_n 0 d_M_ahead_60 rfl rfl ?_
            refine J.getI hG d_M_ahead_61 fl_M_419 ck_109_64 ?_
            refine J.iload_n 2 d_M_ahead_64 rfl rfl ?_
            obtain ⟨m9, hm9, g, h⟩ := jst_some h
            refine J.is hG d_M_ahead_65 g hm9 ?_
            refine J.aload_n 0 d_M_ahead_66 rfl rfl ?_
            refine J.dup d_M_ahead_67 (jr_cat _ _) ?_
            refine J.getI hG d_M_ahead_68 fl_M_419 ck_109_64 ?_
            refine J.iconst (v := (1 : Int32)) d_M_ahead_71 ki_1 ?_
            refine J.nop (pc' := 72) rfl ?_
            refine J.iadd d_M_ahead_72 ?_
            obtain ⟨m10, hm10, h⟩ := jpu_some h
            refine J.putI hG d_M_ahead_73 fl_M_419 fp_10_64 ck_109_64 hm10 ?_
            refine J.aload_n 0 d_M_ahead_76 rfl rfl ?_
            refine J.getI hG d_M_ahead_77 fl_M_419 ck_109_64 ?_
            cases h
            exact J.iret d_M_ahead_80 rfl (vp_nar_int _) rfl
          · rw [if_neg c] at h
            refine J.iconst (v := (-1 : Int32)) d_M_ahead_44 ki_m1 ?_
            refine J.nop (pc' := 45) rfl ?_
            cases h
            exact J.iret d_M_ahead_45 rfl (vp_nar_int _) rfl

def lp_M_placeOf_2 (v1 : Int32) (k20 : Int32 → jMem → Option (Int32 × jMem)) (k28 : jMem → Option (Int32 × jMem)) : Nat → Int32 → jMem → Option (Int32 × jMem)
  | 0, _, _ => none
  | n + 1, v2, m =>
    if (m 109 67) ≤ v2 then
      k28 m
    else
      jld 1 m 146 v2 fun x1 =>
      if x1 = v1 then
        k20 v2 m
      else
        lp_M_placeOf_2 v1 k20 k28 n (v2 + (1 : Int32)) m
def f_M_placeOf (v1 : Int32) (m : jMem) : Option (Int32 × jMem) :=
  lp_M_placeOf_2 v1 (fun w3 m2 =>
    some (w3, m2)) (fun m4 =>
    some ((-1 : Int32), m4)) 5000 (0 : Int32) m
theorem jlp_M_placeOf_2 {G : jG} (hG : jFul G) (v1 : Int32) (k20 : Int32 → jMem → Option (Int32 × jMem)) (k28 : jMem → Option (Int32 × jMem))
    (hk20 : ∀ (v2 : Int32) (m : jMem) (r : (Int32 × jMem)), k20 v2 m = some r → J G Y_M_placeOf 20 [(2, .int v2)] [] m (jri r))
    (hk28 : ∀ (m : jMem) (r : (Int32 × jMem)), k28 m = some r → J G Y_M_placeOf 28 [] [] m (jri r)) : ∀ (n : Nat) (v2 : Int32) (m : jMem) (r : (Int32 × jMem)), lp_M_placeOf_2 v1 k20 k28 n v2 m = some r → J G Y_M_placeOf 2 [(0, jr G 109), (1, .int v1), (2, .int v2)] [] m (jri r) := by
  intro n
  induction n with
  | zero => intro v2 m r h; unfold lp_M_placeOf_2 at h; cases h
  | succ n ih =>
    intro v2 m r h
    unfold lp_M_placeOf_2 at h
    refine J.iload_n 2 d_M_placeOf_2 rfl rfl ?_
    refine J.aload_n 0 d_M_placeOf_3 rfl rfl ?_
    refine J.getI hG d_M_placeOf_4 fl_M_425 ck_109_67 ?_
    refine J.icmp_ge 28 d_M_placeOf_7 rfl (fun c => ?_) (fun c => ?_)
    · rw [if_pos c] at h
      exact J.sub (ls' := []) [] rfl (hk28  m _ h)
    · rw [if_neg c] at h
      refine J.aload_n 0 d_M_placeOf_10 rfl rfl ?_
      refine J.getF (n := 146) hG d_M_placeOf_11 fl_M_123 ck_109_68 rfl ?_
      refine J.iload_n 2 d_M_placeOf_14 rfl rfl ?_
      obtain ⟨x1, ex1, g, h⟩ := jld_some h
      refine J.il hG d_M_placeOf_15 g ex1 ?_
      refine J.nop (pc' := 16) rfl ?_
      refine J.iload_n 1 d_M_placeOf_16 rfl rfl ?_
      refine J.icmp_ne 22 d_M_placeOf_17 rfl (fun c => ?_) (fun c => ?_)
      · rw [if_neg c] at h
        refine J.iinc 2 (v := (1 : Int32)) (lv := [(2, .int (v2 + (1 : Int32))), (0, jr G 109), (1, .int v1)]) d_M_placeOf_22 rfl ki_1 (by decide) rfl ?_
        refine J.goto 2 d_M_placeOf_25 rfl ?_
        exact J.sub (ls' := [(0, jr G 109), (1, .int v1), (2, .int (v2 + (1 : Int32)))]) [1, 2, 0] rfl (ih (v2 + (1 : Int32)) m _ h)
      · rw [if_pos c] at h
        exact J.sub (ls' := [(2, .int v2)]) [2] rfl (hk20 v2 m _ h)
theorem c_M_placeOf {G : jG} (hG : jFul G) {v1 : Int32} {m : jMem} {r : (Int32 × jMem)} (h : f_M_placeOf v1 m = some r) : jCt G Y_M_placeOf [jr G 109, .int v1] m (jri r) := by
  refine jCt.ov (ls := [(0, jr G 109), (1, .int v1)]) mi_M_placeOf (jAvR (jAvI jAvN)) (Nat.le_of_ble_eq_true rfl) ?_ ⟨rfl, rfl⟩
  unfold f_M_placeOf at h
  refine J.iconst (v := (0 : Int32)) d_M_placeOf_0 ki_0 ?_
  refine J.istore_n (lv := [(2, .int (0 : Int32)), (0, jr G 109), (1, .int v1)]) d_M_placeOf_1 rfl (by decide) rfl ?_
  refine J.sub (ls' := [(0, jr G 109), (1, .int v1), (2, .int (0 : Int32))]) [1, 2, 0] rfl ?_
  refine jlp_M_placeOf_2 hG v1 _ _ ?_ ?_ _ (0 : Int32) m _ h
  · intro w3 m2 r h
    refine J.iload_n 0 d_M_placeOf_20 rfl rfl ?_
    cases h
    exact J.iret d_M_placeOf_21 rfl (vp_nar_int _) rfl
  · intro m4 r h
    refine J.iconst (v := (-1 : Int32)) d_M_placeOf_28 ki_m1 ?_
    cases h
    exact J.iret d_M_placeOf_29 rfl (vp_nar_int _) rfl

def lp_M_lay_26 (v1 : Int32) (k71 : jMem → Option (Int32 × jMem)) : Nat → Int32 → jMem → Option (Int32 × jMem)
  | 0, _, _ => none
  | n + 1, v2, m =>
    if (m 109 33) ≤ v2 then
      k71 m
    else
      if ((v1 >>> (v2 &&& 31)) &&& (1 : Int32)) = 0 then
        lp_M_lay_26 v1 k71 n (v2 + (1 : Int32)) m
      else
        jst 1 m 146 (m 109 67) v2 fun m6 =>
        jpu m6 109 67 ((m6 109 67) + (1 : Int32)) fun m7 =>
        lp_M_lay_26 v1 k71 n (v2 + (1 : Int32)) m7
def lp_M_lay_90 (v2 : Int32) (k135 : jMem → Option (Int32 × jMem)) : Nat → Int32 → jMem → Option (Int32 × jMem)
  | 0, _, _ => none
  | n + 1, v3, m =>
    if (m 109 67) ≤ v3 then
      k135 m
    else
      jld 1 m 146 v3 fun x10 =>
      jld 1 m 146 v2 fun x11 =>
      jbd (f_M_isBefore x10 x11 m) fun x12 m13 =>
      if x12 = 0 then
        lp_M_lay_90 v2 k135 n (v3 + (1 : Int32)) m13
      else
        jld 1 m13 147 v2 fun x14 =>
        jst 1 m13 147 v2 (x14 ||| ((1 : Int32) <<< (v3 &&& 31))) fun m15 =>
        lp_M_lay_90 v2 k135 n (v3 + (1 : Int32)) m15
def lp_M_lay_137 (v2 : Int32) (k201 : jMem → Option (Int32 × jMem)) : Nat → Int32 → jMem → Option (Int32 × jMem)
  | 0, _, _ => none
  | n + 1, v3, m =>
    if (m 109 64) ≤ v3 then
      k201 m
    else
      jld 1 m 145 v3 fun x17 =>
      jld 1 m 146 v2 fun x18 =>
      if x17 = x18 then
        jld 1 m 144 v3 fun x19 =>
        jbd (f_M_placeOf x19 m) fun x20 m21 =>
        if x20 = (-1 : Int32) then
          lp_M_lay_137 v2 k201 n (v3 + (1 : Int32)) m21
        else
          jld 1 m21 147 v2 fun x22 =>
          jld 1 m21 144 v3 fun x23 =>
          jbd (f_M_placeOf x23 m21) fun x24 m25 =>
          jst 1 m25 147 v2 (x22 ||| ((1 : Int32) <<< (x24 &&& 31))) fun m26 =>
          lp_M_lay_137 v2 k201 n (v3 + (1 : Int32)) m26
      else
        lp_M_lay_137 v2 k201 n (v3 + (1 : Int32)) m
def lp_M_lay_73 (k207 : jMem → Option (Int32 × jMem)) : Nat → Int32 → jMem → Option (Int32 × jMem)
  | 0, _, _ => none
  | n + 1, v2, m =>
    if (m 109 67) ≤ v2 then
      k207 m
    else
      jst 1 m 147 v2 (0 : Int32) fun m9 =>
      lp_M_lay_90 v2 (fun m16 =>
        lp_M_lay_137 v2 (fun m27 =>
          lp_M_lay_73 k207 n (v2 + (1 : Int32)) m27) 5000 (0 : Int32) m16) 5000 (0 : Int32) m9
def f_M_lay (v1 : Int32) (m : jMem) : Option (Int32 × jMem) :=
  jbd (f_M_isSet v1 m) fun x1 m2 =>
  if x1 = 0 then
    some ((0 : Int32), m2)
  else
    jbd (f_M_bits v1 m2) fun x3 m4 =>
    if x3 ≤ (12 : Int32) then
      jpu m4 109 67 (0 : Int32) fun m5 =>
      lp_M_lay_26 v1 (fun m8 =>
        lp_M_lay_73 (fun m28 =>
          some ((1 : Int32), m28)) 5000 (0 : Int32) m8) 5000 (0 : Int32) m5
    else
      some ((0 : Int32), m4)
theorem jlp_M_lay_26 {G : jG} (hG : jFul G) (v1 : Int32) (k71 : jMem → Option (Int32 × jMem))
    (hk71 : ∀ (m : jMem) (r : (Int32 × jMem)), k71 m = some r → J G Y_M_lay 71 [(0, jr G 109)] [] m (jri r)) : ∀ (n : Nat) (v2 : Int32) (m : jMem) (r : (Int32 × jMem)), lp_M_lay_26 v1 k71 n v2 m = some r → J G Y_M_lay 26 [(0, jr G 109), (1, .int v1), (2, .int v2)] [] m (jri r) := by
  intro n
  induction n with
  | zero => intro v2 m r h; unfold lp_M_lay_26 at h; cases h
  | succ n ih =>
    intro v2 m r h
    unfold lp_M_lay_26 at h
    refine J.iload_n 2 d_M_lay_26 rfl rfl ?_
    refine J.aload_n 0 d_M_lay_27 rfl rfl ?_
    refine J.getI hG d_M_lay_28 fl_M_277 ck_109_33 ?_
    refine J.icmp_ge 71 d_M_lay_31 rfl (fun c => ?_) (fun c => ?_)
    · rw [if_pos c] at h
      exact J.sub (ls' := [(0, jr G 109)]) [0] rfl (hk71  m _ h)
    · rw [if_neg c] at h
      refine J.iload_n 1 d_M_lay_34 rfl rfl ?_
      refine J.iload_n 2 d_M_lay_35 rfl rfl ?_
      refine J.ishr d_M_lay_36 ?_
      refine J.iconst (v := (1 : Int32)) d_M_lay_37 ki_1 ?_
      refine J.nop (pc' := 38) rfl ?_
      refine J.iand d_M_lay_38 ?_
      refine J.if_ne 45 d_M_lay_39 rfl (fun c => ?_) (fun c => ?_)
      · rw [if_neg c] at h
        refine J.aload_n 0 d_M_lay_45 rfl rfl ?_
        refine J.getF (n := 146) hG d_M_lay_46 fl_M_123 ck_109_68 rfl ?_
        refine J.aload_n 0 d_M_lay_49 rfl rfl ?_
        refine J.getI hG d_M_lay_50 fl_M_425 ck_109_67 ?_
        refine J.iload_n 2 d_M_lay_53 rfl rfl ?_
        obtain ⟨m6, hm6, g, h⟩ := jst_some h
        refine J.is hG d_M_lay_54 g hm6 ?_
        refine J.aload_n 0 d_M_lay_55 rfl rfl ?_
        refine J.dup d_M_lay_56 (jr_cat _ _) ?_
        refine J.nop (pc' := 57) rfl ?_
        refine J.getI hG d_M_lay_57 fl_M_425 ck_109_67 ?_
        refine J.iconst (v := (1 : Int32)) d_M_lay_60 ki_1 ?_
        refine J.iadd d_M_lay_61 ?_
        obtain ⟨m7, hm7, h⟩ := jpu_some h
        refine J.putI hG d_M_lay_62 fl_M_425 fp_10_67 ck_109_67 hm7 ?_
        refine J.iinc 2 (v := (1 : Int32)) (lv := [(2, .int (v2 + (1 : Int32))), (0, jr G 109), (1, .int v1)]) d_M_lay_65 rfl ki_1 (by decide) rfl ?_
        refine J.goto 26 d_M_lay_68 rfl ?_
        exact J.sub (ls' := [(0, jr G 109), (1, .int v1), (2, .int (v2 + (1 : Int32)))]) [1, 2, 0] rfl (ih (v2 + (1 : Int32)) m7 _ h)
      · rw [if_pos c] at h
        refine J.goto 65 d_M_lay_42 rfl ?_
        refine J.iinc 2 (v := (1 : Int32)) (lv := [(2, .int (v2 + (1 : Int32))), (0, jr G 109), (1, .int v1)]) d_M_lay_65 rfl ki_1 (by decide) rfl ?_
        refine J.goto 26 d_M_lay_68 rfl ?_
        exact J.sub (ls' := [(0, jr G 109), (1, .int v1), (2, .int (v2 + (1 : Int32)))]) [1, 2, 0] rfl (ih (v2 + (1 : Int32)) m _ h)
theorem jlp_M_lay_90 {G : jG} (hG : jFul G) (v2 : Int32) (k135 : jMem → Option (Int32 × jMem))
    (hk135 : ∀ (m : jMem) (r : (Int32 × jMem)), k135 m = some r → J G Y_M_lay 135 [(0, jr G 109), (2, .int v2)] [] m (jri r)) : ∀ (n : Nat) (v3 : Int32) (m : jMem) (r : (Int32 × jMem)), lp_M_lay_90 v2 k135 n v3 m = some r → J G Y_M_lay 90 [(0, jr G 109), (2, .int v2), (3, .int v3)] [] m (jri r) := by
  intro n
  induction n with
  | zero => intro v3 m r h; unfold lp_M_lay_90 at h; cases h
  | succ n ih =>
    intro v3 m r h
    unfold lp_M_lay_90 at h
    refine J.iload_n 2 d_M_lay_90 rfl rfl ?_
    refine J.aload_n 0 d_M_lay_91 rfl rfl ?_
    refine J.getI hG d_M_lay_92 fl_M_425 ck_109_67 ?_
    refine J.icmp_ge 135 d_M_lay_95 rfl (fun c => ?_) (fun c => ?_)
    · rw [if_pos c] at h
      exact J.sub (ls' := [(0, jr G 109), (2, .int v2)]) [0, 1] rfl (hk135  m _ h)
    · rw [if_neg c] at h
      refine J.aload_n 0 d_M_lay_98 rfl rfl ?_
      refine J.aload_n 0 d_M_lay_99 rfl rfl ?_
      refine J.getF (n := 146) hG d_M_lay_100 fl_M_123 ck_109_68 rfl ?_
      refine J.iload_n 2 d_M_lay_103 rfl rfl ?_
      refine J.nop (pc' := 104) rfl ?_
      obtain ⟨x10, ex10, g, h⟩ := jld_some h
      refine J.il hG d_M_lay_104 g ex10 ?_
      refine J.aload_n 0 d_M_lay_105 rfl rfl ?_
      refine J.getF (n := 146) hG d_M_lay_106 fl_M_123 ck_109_68 rfl ?_
      refine J.iload_n 1 d_M_lay_109 rfl rfl ?_
      obtain ⟨x11, ex11, g, h⟩ := jld_some h
      refine J.il hG d_M_lay_110 g ex11 ?_
      obtain ⟨x12, m13, zm13, h⟩ := jbd_some h
      refine J.cVi Y_M_isBefore (As := [.int x10, .int x11]) (rest := []) hG d_M_lay_111 mi_M_isBefore mv_M_isBefore lk_M_350 ⟨rfl, rfl, Nat.le_of_ble_eq_true rfl⟩ cq_109 cc_10 (c_M_isBefore hG zm13) rfl (Nat.le_trans jcN (Nat.le_of_ble_eq_true rfl)) ?_
      refine J.if_eq 129 d_M_lay_114 rfl (fun c => ?_) (fun c => ?_)
      · rw [if_pos c] at h
        refine J.iinc 2 (v := (1 : Int32)) (lv := [(3, .int (v3 + (1 : Int32))), (0, jr G 109), (2, .int v2)]) d_M_lay_129 rfl ki_1 (by decide) rfl ?_
        refine J.goto 90 d_M_lay_132 rfl ?_
        exact J.sub (ls' := [(0, jr G 109), (2, .int v2), (3, .int (v3 + (1 : Int32)))]) [1, 2, 0] rfl (ih (v3 + (1 : Int32)) m13 _ h)
      · rw [if_neg c] at h
        refine J.aload_n 0 d_M_lay_117 rfl rfl ?_
        refine J.nop (pc' := 118) rfl ?_
        refine J.getF (n := 147) hG d_M_lay_118 fl_M_126 ck_109_69 rfl ?_
        refine J.iload_n 1 d_M_lay_121 rfl rfl ?_
        refine J.dup2 d_M_lay_122 rfl (jr_cat _ _) ?_
        obtain ⟨x14, ex14, g, h⟩ := jld_some h
        refine J.il hG d_M_lay_123 g ex14 ?_
        refine J.iconst (v := (1 : Int32)) d_M_lay_124 ki_1 ?_
        refine J.iload_n 2 d_M_lay_125 rfl rfl ?_
        refine J.ishl d_M_lay_126 ?_
        refine J.ior d_M_lay_127 ?_
        refine J.nop (pc' := 128) rfl ?_
        obtain ⟨m15, hm15, g, h⟩ := jst_some h
        refine J.is hG d_M_lay_128 g hm15 ?_
        refine J.iinc 2 (v := (1 : Int32)) (lv := [(3, .int (v3 + (1 : Int32))), (0, jr G 109), (2, .int v2)]) d_M_lay_129 rfl ki_1 (by decide) rfl ?_
        refine J.goto 90 d_M_lay_132 rfl ?_
        exact J.sub (ls' := [(0, jr G 109), (2, .int v2), (3, .int (v3 + (1 : Int32)))]) [1, 2, 0] rfl (ih (v3 + (1 : Int32)) m15 _ h)
theorem jlp_M_lay_137 {G : jG} (hG : jFul G) (v2 : Int32) (k201 : jMem → Option (Int32 × jMem))
    (hk201 : ∀ (m : jMem) (r : (Int32 × jMem)), k201 m = some r → J G Y_M_lay 201 [(0, jr G 109), (2, .int v2)] [] m (jri r)) : ∀ (n : Nat) (v3 : Int32) (m : jMem) (r : (Int32 × jMem)), lp_M_lay_137 v2 k201 n v3 m = some r → J G Y_M_lay 137 [(0, jr G 109), (2, .int v2), (3, .int v3)] [] m (jri r) := by
  intro n
  induction n with
  | zero => intro v3 m r h; unfold lp_M_lay_137 at h; cases h
  | succ n ih =>
    intro v3 m r h
    unfold lp_M_lay_137 at h
    refine J.iload_n 2 d_M_lay_137 rfl rfl ?_
    refine J.aload_n 0 d_M_lay_138 rfl rfl ?_
    refine J.getI hG d_M_lay_139 fl_M_419 ck_109_64 ?_
    refine J.icmp_ge 201 d_M_lay_142 rfl (fun c => ?_) (fun c => ?_)
    · rw [if_pos c] at h
      exact J.sub (ls' := [(0, jr G 109), (2, .int v2)]) [0, 1] rfl (hk201  m _ h)
    · rw [if_neg c] at h
      refine J.aload_n 0 d_M_lay_145 rfl rfl ?_
      refine J.getF (n := 145) hG d_M_lay_146 fl_M_120 ck_109_66 rfl ?_
      refine J.iload_n 2 d_M_lay_149 rfl rfl ?_
      obtain ⟨x17, ex17, g, h⟩ := jld_some h
      refine J.il hG d_M_lay_150 g ex17 ?_
      refine J.nop (pc' := 151) rfl ?_
      refine J.aload_n 0 d_M_lay_151 rfl rfl ?_
      refine J.getF (n := 146) hG d_M_lay_152 fl_M_123 ck_109_68 rfl ?_
      refine J.iload_n 1 d_M_lay_155 rfl rfl ?_
      obtain ⟨x18, ex18, g, h⟩ := jld_some h
      refine J.il hG d_M_lay_156 g ex18 ?_
      refine J.icmp_ne 195 d_M_lay_157 rfl (fun c => ?_) (fun c => ?_)
      · rw [if_neg c] at h
        refine J.iinc 2 (v := (1 : Int32)) (lv := [(3, .int (v3 + (1 : Int32))), (0, jr G 109), (2, .int v2)]) d_M_lay_195 rfl ki_1 (by decide) rfl ?_
        refine J.goto 137 d_M_lay_198 rfl ?_
        exact J.sub (ls' := [(0, jr G 109), (2, .int v2), (3, .int (v3 + (1 : Int32)))]) [1, 2, 0] rfl (ih (v3 + (1 : Int32)) m _ h)
      · rw [if_pos c] at h
        refine J.aload_n 0 d_M_lay_160 rfl rfl ?_
        refine J.aload_n 0 d_M_lay_161 rfl rfl ?_
        refine J.getF (n := 144) hG d_M_lay_162 fl_M_117 ck_109_65 rfl ?_
        refine J.nop (pc' := 165) rfl ?_
        refine J.iload_n 2 d_M_lay_165 rfl rfl ?_
        obtain ⟨x19, ex19, g, h⟩ := jld_some h
        refine J.il hG d_M_lay_166 g ex19 ?_
        obtain ⟨x20, m21, zm21, h⟩ := jbd_some h
        refine J.cVi Y_M_placeOf (As := [.int x19]) (rest := []) hG d_M_lay_167 mi_M_placeOf mv_M_placeOf lk_M_428 ⟨rfl, rfl, Nat.le_of_ble_eq_true rfl⟩ cq_109 cc_10 (c_M_placeOf hG zm21) rfl (Nat.le_trans jcN (Nat.le_of_ble_eq_true rfl)) ?_
        refine J.iconst (v := (-1 : Int32)) d_M_lay_170 ki_m1 ?_
        refine J.icmp_eq 195 d_M_lay_171 rfl (fun c => ?_) (fun c => ?_)
        · rw [if_pos c] at h
          refine J.iinc 2 (v := (1 : Int32)) (lv := [(3, .int (v3 + (1 : Int32))), (0, jr G 109), (2, .int v2)]) d_M_lay_195 rfl ki_1 (by decide) rfl ?_
          refine J.goto 137 d_M_lay_198 rfl ?_
          exact J.sub (ls' := [(0, jr G 109), (2, .int v2), (3, .int (v3 + (1 : Int32)))]) [1, 2, 0] rfl (ih (v3 + (1 : Int32)) m21 _ h)
        · rw [if_neg c] at h
          refine J.aload_n 0 d_M_lay_174 rfl rfl ?_
          refine J.getF (n := 147) hG d_M_lay_175 fl_M_126 ck_109_69 rfl ?_
          refine J.iload_n 1 d_M_lay_178 rfl rfl ?_
          refine J.nop (pc' := 179) rfl ?_
          refine J.dup2 d_M_lay_179 rfl (jr_cat _ _) ?_
          obtain ⟨x22, ex22, g, h⟩ := jld_some h
          refine J.il hG d_M_lay_180 g ex22 ?_
          refine J.iconst (v := (1 : Int32)) d_M_lay_181 ki_1 ?_
          refine J.aload_n 0 d_M_lay_182 rfl rfl ?_
          refine J.aload_n 0 d_M_lay_183 rfl rfl ?_
          refine J.getF (n := 144) hG d_M_lay_184 fl_M_117 ck_109_65 rfl ?_
          refine J.iload_n 2 d_M_lay_187 rfl rfl ?_
          obtain ⟨x23, ex23, g, h⟩ := jld_some h
          refine J.il hG d_M_lay_188 g ex23 ?_
          refine J.nop (pc' := 189) rfl ?_
          obtain ⟨x24, m25, zm25, h⟩ := jbd_some h
          refine J.cVi Y_M_placeOf (As := [.int x23]) (rest := [.int (1 : Int32), .int x22, .int v2, jr G 147]) hG d_M_lay_189 mi_M_placeOf mv_M_placeOf lk_M_428 ⟨rfl, rfl, Nat.le_of_ble_eq_true rfl⟩ cq_109 cc_10 (c_M_placeOf hG zm25) rfl (Nat.le_trans (jcI (jcI (jcI (jcR jcN)))) (Nat.le_of_ble_eq_true rfl)) ?_
          refine J.ishl d_M_lay_192 ?_
          refine J.ior d_M_lay_193 ?_
          obtain ⟨m26, hm26, g, h⟩ := jst_some h
          refine J.is hG d_M_lay_194 g hm26 ?_
          refine J.iinc 2 (v := (1 : Int32)) (lv := [(3, .int (v3 + (1 : Int32))), (0, jr G 109), (2, .int v2)]) d_M_lay_195 rfl ki_1 (by decide) rfl ?_
          refine J.goto 137 d_M_lay_198 rfl ?_
          exact J.sub (ls' := [(0, jr G 109), (2, .int v2), (3, .int (v3 + (1 : Int32)))]) [1, 2, 0] rfl (ih (v3 + (1 : Int32)) m26 _ h)
theorem jlp_M_lay_73 {G : jG} (hG : jFul G) (k207 : jMem → Option (Int32 × jMem))
    (hk207 : ∀ (m : jMem) (r : (Int32 × jMem)), k207 m = some r → J G Y_M_lay 207 [] [] m (jri r)) : ∀ (n : Nat) (v2 : Int32) (m : jMem) (r : (Int32 × jMem)), lp_M_lay_73 k207 n v2 m = some r → J G Y_M_lay 73 [(0, jr G 109), (2, .int v2)] [] m (jri r) := by
  intro n
  induction n with
  | zero => intro v2 m r h; unfold lp_M_lay_73 at h; cases h
  | succ n ih =>
    intro v2 m r h
    unfold lp_M_lay_73 at h
    refine J.iload_n 1 d_M_lay_73 rfl rfl ?_
    refine J.aload_n 0 d_M_lay_74 rfl rfl ?_
    refine J.getI hG d_M_lay_75 fl_M_425 ck_109_67 ?_
    refine J.icmp_ge 207 d_M_lay_78 rfl (fun c => ?_) (fun c => ?_)
    · rw [if_pos c] at h
      exact J.sub (ls' := []) [] rfl (hk207  m _ h)
    · rw [if_neg c] at h
      refine J.aload_n 0 d_M_lay_81 rfl rfl ?_
      refine J.getF (n := 147) hG d_M_lay_82 fl_M_126 ck_109_69 rfl ?_
      refine J.iload_n 1 d_M_lay_85 rfl rfl ?_
      refine J.iconst (v := (0 : Int32)) d_M_lay_86 ki_0 ?_
      refine J.nop (pc' := 87) rfl ?_
      obtain ⟨m9, hm9, g, h⟩ := jst_some h
      refine J.is hG d_M_lay_87 g hm9 ?_
      refine J.iconst (v := (0 : Int32)) d_M_lay_88 ki_0 ?_
      refine J.istore_n (lv := [(3, .int (0 : Int32)), (0, jr G 109), (2, .int v2)]) d_M_lay_89 rfl (by decide) rfl ?_
      refine J.sub (ls' := [(0, jr G 109), (2, .int v2), (3, .int (0 : Int32))]) [1, 2, 0] rfl ?_
      refine jlp_M_lay_90 hG v2 _ ?_ _ (0 : Int32) m9 _ h
      intro m16 r h
      refine J.iconst (v := (0 : Int32)) d_M_lay_135 ki_0 ?_
      refine J.istore_n (lv := [(3, .int (0 : Int32)), (0, jr G 109), (2, .int v2)]) d_M_lay_136 rfl (by decide) rfl ?_
      refine J.sub (ls' := [(0, jr G 109), (2, .int v2), (3, .int (0 : Int32))]) [1, 2, 0] rfl ?_
      refine jlp_M_lay_137 hG v2 _ ?_ _ (0 : Int32) m16 _ h
      intro m27 r h
      refine J.iinc 1 (v := (1 : Int32)) (lv := [(2, .int (v2 + (1 : Int32))), (0, jr G 109)]) d_M_lay_201 rfl ki_1 (by decide) rfl ?_
      refine J.goto 73 d_M_lay_204 rfl ?_
      exact J.sub (ls' := [(0, jr G 109), (2, .int (v2 + (1 : Int32)))]) [1, 0] rfl (ih (v2 + (1 : Int32)) m27 _ h)
theorem c_M_lay {G : jG} (hG : jFul G) {v1 : Int32} {m : jMem} {r : (Int32 × jMem)} (h : f_M_lay v1 m = some r) : jCt G Y_M_lay [jr G 109, .int v1] m (jri r) := by
  refine jCt.ov (ls := [(0, jr G 109), (1, .int v1)]) mi_M_lay (jAvR (jAvI jAvN)) (Nat.le_of_ble_eq_true rfl) ?_ ⟨rfl, rfl⟩
  unfold f_M_lay at h
  refine J.aload_n 0 d_M_lay_0 rfl rfl ?_
  refine J.iload_n 1 d_M_lay_1 rfl rfl ?_
  obtain ⟨x1, m2, zm2, h⟩ := jbd_some h
  refine J.cVi Y_M_isSet (As := [.int v1]) (rest := []) hG d_M_lay_2 mi_M_isSet mv_M_isSet lk_M_384 ⟨rfl, rfl, Nat.le_of_ble_eq_true rfl⟩ cq_109 cc_10 (c_M_isSet hG zm2) rfl (Nat.le_trans jcN (Nat.le_of_ble_eq_true rfl)) ?_
  refine J.if_eq 17 d_M_lay_5 rfl (fun c => ?_) (fun c => ?_)
  · rw [if_pos c] at h
    refine J.iconst (v := (0 : Int32)) d_M_lay_17 ki_0 ?_
    cases h
    exact J.iret d_M_lay_18 rfl rfl rfl
  · rw [if_neg c] at h
    refine J.iload_n 1 d_M_lay_8 rfl rfl ?_
    obtain ⟨x3, m4, zm4, h⟩ := jbd_some h
    refine J.cSi Y_M_bits (As := [.int v1]) (rest := []) d_M_lay_9 mi_M_bits ms_M_bits lk_M_306 ⟨rfl, rfl, Nat.le_of_ble_eq_true rfl⟩ (c_M_bits hG zm4) rfl (Nat.le_trans jcN (Nat.le_of_ble_eq_true rfl)) ?_
    refine J.bipush (v := (12 : Int32)) d_M_lay_12 kb_12 ?_
    refine J.icmp_le 19 d_M_lay_14 rfl (fun c => ?_) (fun c => ?_)
    · rw [if_pos c] at h
      refine J.aload_n 0 d_M_lay_19 rfl rfl ?_
      refine J.iconst (v := (0 : Int32)) d_M_lay_20 ki_0 ?_
      obtain ⟨m5, hm5, h⟩ := jpu_some h
      refine J.putI hG d_M_lay_21 fl_M_425 fp_10_67 ck_109_67 hm5 ?_
      refine J.iconst (v := (0 : Int32)) d_M_lay_24 ki_0 ?_
      refine J.istore_n (lv := [(2, .int (0 : Int32)), (0, jr G 109), (1, .int v1)]) d_M_lay_25 rfl (by decide) rfl ?_
      refine J.sub (ls' := [(0, jr G 109), (1, .int v1), (2, .int (0 : Int32))]) [1, 2, 0] rfl ?_
      refine jlp_M_lay_26 hG v1 _ ?_ _ (0 : Int32) m5 _ h
      intro m8 r h
      refine J.iconst (v := (0 : Int32)) d_M_lay_71 ki_0 ?_
      refine J.istore_n (lv := [(2, .int (0 : Int32)), (0, jr G 109)]) d_M_lay_72 rfl (by decide) rfl ?_
      refine J.sub (ls' := [(0, jr G 109), (2, .int (0 : Int32))]) [1, 0] rfl ?_
      refine jlp_M_lay_73 hG _ ?_ _ (0 : Int32) m8 _ h
      intro m28 r h
      refine J.iconst (v := (1 : Int32)) d_M_lay_207 ki_1 ?_
      cases h
      exact J.iret d_M_lay_208 rfl rfl rfl
    · rw [if_neg c] at h
      refine J.nop (pc' := 17) rfl ?_
      refine J.iconst (v := (0 : Int32)) d_M_lay_17 ki_0 ?_
      cases h
      exact J.iret d_M_lay_18 rfl rfl rfl

def lp_M_countOrders_33 (v2 : Int32) (k87 : jMem → Option (Int32 × jMem)) : Nat → Int32 → jMem → Option (Int32 × jMem)
  | 0, _, _ => none
  | n + 1, v3, m =>
    if (m 109 67) ≤ v3 then
      k87 m
    else
      if ((v2 >>> (v3 &&& 31)) &&& (1 : Int32)) = 0 then
        jld 1 m 147 v3 fun x3 =>
        if (x3 &&& (v2 ^^^ (-1 : Int32))) = 0 then
          jld 1 m 148 v2 fun x4 =>
          jld 1 m 148 (v2 ||| ((1 : Int32) <<< (v3 &&& 31))) fun x5 =>
          jst 1 m 148 v2 (x4 + x5) fun m6 =>
          lp_M_countOrders_33 v2 k87 n (v3 + (1 : Int32)) m6
        else
          lp_M_countOrders_33 v2 k87 n (v3 + (1 : Int32)) m
      else
        lp_M_countOrders_33 v2 k87 n (v3 + (1 : Int32)) m
def lp_M_countOrders_20 (k93 : jMem → Option (Int32 × jMem)) : Nat → Int32 → jMem → Option (Int32 × jMem)
  | 0, _, _ => none
  | n + 1, v2, m =>
    if v2 < 0 then
      k93 m
    else
      jst 1 m 148 v2 (0 : Int32) fun m2 =>
      lp_M_countOrders_33 v2 (fun m7 =>
        lp_M_countOrders_20 k93 n (v2 + (-1 : Int32)) m7) 5000 (0 : Int32) m2
def f_M_countOrders (m : jMem) : Option (Int32 × jMem) :=
  jst 1 m 148 (((1 : Int32) <<< ((m 109 67) &&& 31)) - (1 : Int32)) (1 : Int32) fun m1 =>
  lp_M_countOrders_20 (fun m8 =>
    jld 1 m8 148 (0 : Int32) fun x9 =>
    some (x9, m8)) 5000 ((((1 : Int32) <<< ((m 109 67) &&& 31)) - (1 : Int32)) - (1 : Int32)) m1
theorem jlp_M_countOrders_33 {G : jG} (hG : jFul G) (v2 : Int32) (k87 : jMem → Option (Int32 × jMem))
    (hk87 : ∀ (m : jMem) (r : (Int32 × jMem)), k87 m = some r → J G Y_M_countOrders 87 [(0, jr G 109), (2, .int v2)] [] m (jri r)) : ∀ (n : Nat) (v3 : Int32) (m : jMem) (r : (Int32 × jMem)), lp_M_countOrders_33 v2 k87 n v3 m = some r → J G Y_M_countOrders 33 [(0, jr G 109), (2, .int v2), (3, .int v3)] [] m (jri r) := by
  intro n
  induction n with
  | zero => intro v3 m r h; unfold lp_M_countOrders_33 at h; cases h
  | succ n ih =>
    intro v3 m r h
    unfold lp_M_countOrders_33 at h
    refine J.iload_n 2 d_M_countOrders_33 rfl rfl ?_
    refine J.aload_n 0 d_M_countOrders_34 rfl rfl ?_
    refine J.getI hG d_M_countOrders_35 fl_M_425 ck_109_67 ?_
    refine J.icmp_ge 87 d_M_countOrders_38 rfl (fun c => ?_) (fun c => ?_)
    · rw [if_pos c] at h
      exact J.sub (ls' := [(0, jr G 109), (2, .int v2)]) [0, 1] rfl (hk87  m _ h)
    · rw [if_neg c] at h
      refine J.iload_n 1 d_M_countOrders_41 rfl rfl ?_
      refine J.iload_n 2 d_M_countOrders_42 rfl rfl ?_
      refine J.ishr d_M_countOrders_43 ?_
      refine J.iconst (v := (1 : Int32)) d_M_countOrders_44 ki_1 ?_
      refine J.nop (pc' := 45) rfl ?_
      refine J.iand d_M_countOrders_45 ?_
      refine J.if_ne 81 d_M_countOrders_46 rfl (fun c => ?_) (fun c => ?_)
      · rw [if_neg c] at h
        refine J.iinc 2 (v := (1 : Int32)) (lv := [(3, .int (v3 + (1 : Int32))), (0, jr G 109), (2, .int v2)]) d_M_countOrders_81 rfl ki_1 (by decide) rfl ?_
        refine J.goto 33 d_M_countOrders_84 rfl ?_
        exact J.sub (ls' := [(0, jr G 109), (2, .int v2), (3, .int (v3 + (1 : Int32)))]) [1, 2, 0] rfl (ih (v3 + (1 : Int32)) m _ h)
      · rw [if_pos c] at h
        refine J.aload_n 0 d_M_countOrders_49 rfl rfl ?_
        refine J.getF (n := 147) hG d_M_countOrders_50 fl_M_126 ck_109_69 rfl ?_
        refine J.iload_n 2 d_M_countOrders_53 rfl rfl ?_
        obtain ⟨x3, ex3, g, h⟩ := jld_some h
        refine J.il hG d_M_countOrders_54 g ex3 ?_
        refine J.iload_n 1 d_M_countOrders_55 rfl rfl ?_
        refine J.iconst (v := (-1 : Int32)) d_M_countOrders_56 ki_m1 ?_
        refine J.nop (pc' := 57) rfl ?_
        refine J.ixor d_M_countOrders_57 ?_
        refine J.iand d_M_countOrders_58 ?_
        refine J.if_ne 81 d_M_countOrders_59 rfl (fun c => ?_) (fun c => ?_)
        · rw [if_neg c] at h
          refine J.iinc 2 (v := (1 : Int32)) (lv := [(3, .int (v3 + (1 : Int32))), (0, jr G 109), (2, .int v2)]) d_M_countOrders_81 rfl ki_1 (by decide) rfl ?_
          refine J.goto 33 d_M_countOrders_84 rfl ?_
          exact J.sub (ls' := [(0, jr G 109), (2, .int v2), (3, .int (v3 + (1 : Int32)))]) [1, 2, 0] rfl (ih (v3 + (1 : Int32)) m _ h)
        · rw [if_pos c] at h
          refine J.aload_n 0 d_M_countOrders_62 rfl rfl ?_
          refine J.getF (n := 148) hG d_M_countOrders_63 fl_M_129 ck_109_70 rfl ?_
          refine J.iload_n 1 d_M_countOrders_66 rfl rfl ?_
          refine J.dup2 d_M_countOrders_67 rfl (jr_cat _ _) ?_
          obtain ⟨x4, ex4, g, h⟩ := jld_some h
          refine J.il hG d_M_countOrders_68 g ex4 ?_
          refine J.nop (pc' := 69) rfl ?_
          refine J.aload_n 0 d_M_countOrders_69 rfl rfl ?_
          refine J.getF (n := 148) hG d_M_countOrders_70 fl_M_129 ck_109_70 rfl ?_
          refine J.iload_n 1 d_M_countOrders_73 rfl rfl ?_
          refine J.iconst (v := (1 : Int32)) d_M_countOrders_74 ki_1 ?_
          refine J.iload_n 2 d_M_countOrders_75 rfl rfl ?_
          refine J.ishl d_M_countOrders_76 ?_
          refine J.ior d_M_countOrders_77 ?_
          obtain ⟨x5, ex5, g, h⟩ := jld_some h
          refine J.il hG d_M_countOrders_78 g ex5 ?_
          refine J.nop (pc' := 79) rfl ?_
          refine J.iadd d_M_countOrders_79 ?_
          obtain ⟨m6, hm6, g, h⟩ := jst_some h
          refine J.is hG d_M_countOrders_80 g hm6 ?_
          refine J.iinc 2 (v := (1 : Int32)) (lv := [(3, .int (v3 + (1 : Int32))), (0, jr G 109), (2, .int v2)]) d_M_countOrders_81 rfl ki_1 (by decide) rfl ?_
          refine J.goto 33 d_M_countOrders_84 rfl ?_
          exact J.sub (ls' := [(0, jr G 109), (2, .int v2), (3, .int (v3 + (1 : Int32)))]) [1, 2, 0] rfl (ih (v3 + (1 : Int32)) m6 _ h)
theorem jlp_M_countOrders_20 {G : jG} (hG : jFul G) (k93 : jMem → Option (Int32 × jMem))
    (hk93 : ∀ (m : jMem) (r : (Int32 × jMem)), k93 m = some r → J G Y_M_countOrders 93 [(0, jr G 109)] [] m (jri r)) : ∀ (n : Nat) (v2 : Int32) (m : jMem) (r : (Int32 × jMem)), lp_M_countOrders_20 k93 n v2 m = some r → J G Y_M_countOrders 20 [(0, jr G 109), (2, .int v2)] [] m (jri r) := by
  intro n
  induction n with
  | zero => intro v2 m r h; unfold lp_M_countOrders_20 at h; cases h
  | succ n ih =>
    intro v2 m r h
    unfold lp_M_countOrders_20 at h
    refine J.iload_n 1 d_M_countOrders_20 rfl rfl ?_
    refine J.if_lt 93 d_M_countOrders_21 rfl (fun c => ?_) (fun c => ?_)
    · rw [if_pos c] at h
      exact J.sub (ls' := [(0, jr G 109)]) [0] rfl (hk93  m _ h)
    · rw [if_neg c] at h
      refine J.aload_n 0 d_M_countOrders_24 rfl rfl ?_
      refine J.getF (n := 148) hG d_M_countOrders_25 fl_M_129 ck_109_70 rfl ?_
      refine J.iload_n 1 d_M_countOrders_28 rfl rfl ?_
      refine J.iconst (v := (0 : Int32)) d_M_countOrders_29 ki_0 ?_
      obtain ⟨m2, hm2, g, h⟩ := jst_some h
      refine J.is hG d_M_countOrders_30 g hm2 ?_
      refine J.iconst (v := (0 : Int32)) d_M_countOrders_31 ki_0 ?_
      refine J.nop (pc' := 32) rfl ?_
      refine J.istore_n (lv := [(3, .int (0 : Int32)), (0, jr G 109), (2, .int v2)]) d_M_countOrders_32 rfl (by decide) rfl ?_
      refine J.sub (ls' := [(0, jr G 109), (2, .int v2), (3, .int (0 : Int32))]) [1, 2, 0] rfl ?_
      refine jlp_M_countOrders_33 hG v2 _ ?_ _ (0 : Int32) m2 _ h
      intro m7 r h
      refine J.iinc 1 (v := (-1 : Int32)) (lv := [(2, .int (v2 + (-1 : Int32))), (0, jr G 109)]) d_M_countOrders_87 rfl ki_m1 (by decide) rfl ?_
      refine J.goto 20 d_M_countOrders_90 rfl ?_
      exact J.sub (ls' := [(0, jr G 109), (2, .int (v2 + (-1 : Int32)))]) [1, 0] rfl (ih (v2 + (-1 : Int32)) m7 _ h)
theorem c_M_countOrders {G : jG} (hG : jFul G) {m : jMem} {r : (Int32 × jMem)} (h : f_M_countOrders m = some r) : jCt G Y_M_countOrders [jr G 109] m (jri r) := by
  refine jCt.ov (ls := [(0, jr G 109)]) mi_M_countOrders (jAvR jAvN) (Nat.le_of_ble_eq_true rfl) ?_ ⟨rfl, rfl⟩
  unfold f_M_countOrders at h
  refine J.iconst (v := (1 : Int32)) d_M_countOrders_0 ki_1 ?_
  refine J.aload_n 0 d_M_countOrders_1 rfl rfl ?_
  refine J.getI hG d_M_countOrders_2 fl_M_425 ck_109_67 ?_
  refine J.ishl d_M_countOrders_5 ?_
  refine J.iconst (v := (1 : Int32)) d_M_countOrders_6 ki_1 ?_
  refine J.isub d_M_countOrders_7 ?_
  refine J.istore_n (lv := [(1, .int (((1 : Int32) <<< ((m 109 67) &&& 31)) - (1 : Int32))), (0, jr G 109)]) d_M_countOrders_8 rfl (by decide) rfl ?_
  refine J.aload_n 1 d_M_countOrders_9 rfl rfl ?_
  refine J.nop (pc' := 10) rfl ?_
  refine J.getF (n := 148) hG d_M_countOrders_10 fl_M_129 ck_109_70 rfl ?_
  refine J.iload_n 0 d_M_countOrders_13 rfl rfl ?_
  refine J.iconst (v := (1 : Int32)) d_M_countOrders_14 ki_1 ?_
  obtain ⟨m1, hm1, g, h⟩ := jst_some h
  refine J.is hG d_M_countOrders_15 g hm1 ?_
  refine J.iload_n 0 d_M_countOrders_16 rfl rfl ?_
  refine J.iconst (v := (1 : Int32)) d_M_countOrders_17 ki_1 ?_
  refine J.isub d_M_countOrders_18 ?_
  refine J.istore_n (lv := [(2, .int ((((1 : Int32) <<< ((m 109 67) &&& 31)) - (1 : Int32)) - (1 : Int32))), (1, .int (((1 : Int32) <<< ((m 109 67) &&& 31)) - (1 : Int32))), (0, jr G 109)]) d_M_countOrders_19 rfl (by decide) rfl ?_
  refine J.sub (ls' := [(0, jr G 109), (2, .int ((((1 : Int32) <<< ((m 109 67) &&& 31)) - (1 : Int32)) - (1 : Int32)))]) [2, 0] rfl ?_
  refine jlp_M_countOrders_20 hG _ ?_ _ ((((1 : Int32) <<< ((m 109 67) &&& 31)) - (1 : Int32)) - (1 : Int32)) m1 _ h
  intro m8 r h
  refine J.aload_n 0 d_M_countOrders_93 rfl rfl ?_
  refine J.getF (n := 148) hG d_M_countOrders_94 fl_M_129 ck_109_70 rfl ?_
  refine J.iconst (v := (0 : Int32)) d_M_countOrders_97 ki_0 ?_
  obtain ⟨x9, ex9, g, h⟩ := jld_some h
  refine J.il hG d_M_countOrders_98 g ex9 ?_
  cases h
  exact J.iret d_M_countOrders_99 rfl (vp_nar_int _) rfl

def f_M_orders (v1 : Int32) (m : jMem) : Option (Int32 × jMem) :=
  jpu m 109 0 (0 : Int32) fun m1 =>
  jbd (f_M_lay v1 m1) fun x2 m3 =>
  if x2 = 0 then
    some ((-1 : Int32), m3)
  else
    jbd (f_M_countOrders m3) fun x4 m5 =>
    some (x4, m5)
theorem c_M_orders {G : jG} (hG : jFul G) {v1 : Int32} {m : jMem} {r : (Int32 × jMem)} (h : f_M_orders v1 m = some r) : jCt G Y_M_orders [jr G 109, .int v1] m (jri r) := by
  refine jCt.ov (ls := [(0, jr G 109), (1, .int v1)]) mi_M_orders (jAvR (jAvI jAvN)) (Nat.le_of_ble_eq_true rfl) ?_ ⟨rfl, rfl⟩
  unfold f_M_orders at h
  refine J.aload_n 0 d_M_orders_0 rfl rfl ?_
  refine J.iconst (v := (0 : Int32)) d_M_orders_1 ki_0 ?_
  obtain ⟨m1, hm1, h⟩ := jpu_some h
  refine J.putI hG d_M_orders_2 fl_M_132 fp_10_0 ck_109_0 hm1 ?_
  refine J.aload_n 0 d_M_orders_5 rfl rfl ?_
  refine J.iload_n 1 d_M_orders_6 rfl rfl ?_
  obtain ⟨x2, m3, zm3, h⟩ := jbd_some h
  refine J.cVi Y_M_lay (As := [.int v1]) (rest := []) hG d_M_orders_7 mi_M_lay mv_M_lay lk_M_431 ⟨rfl, rfl, Nat.le_of_ble_eq_true rfl⟩ cq_109 cc_10 (c_M_lay hG zm3) rfl (Nat.le_trans jcN (Nat.le_of_ble_eq_true rfl)) ?_
  refine J.if_eq 20 d_M_orders_10 rfl (fun c => ?_) (fun c => ?_)
  · rw [if_pos c] at h
    refine J.iconst (v := (-1 : Int32)) d_M_orders_20 ki_m1 ?_
    cases h
    exact J.iret d_M_orders_21 rfl (vp_nar_int _) rfl
  · rw [if_neg c] at h
    refine J.aload_n 0 d_M_orders_13 rfl rfl ?_
    refine J.nop (pc' := 14) rfl ?_
    obtain ⟨x4, m5, zm5, h⟩ := jbd_some h
    refine J.cVi Y_M_countOrders (As := []) (rest := []) hG d_M_orders_14 mi_M_countOrders mv_M_countOrders lk_M_434 ⟨rfl, rfl, Nat.le_of_ble_eq_true rfl⟩ cq_109 cc_10 (c_M_countOrders hG zm5) rfl (Nat.le_trans jcN (Nat.le_of_ble_eq_true rfl)) ?_
    refine J.goto 21 d_M_orders_17 rfl ?_
    cases h
    exact J.iret d_M_orders_21 rfl (vp_nar_int _) rfl

def lp_M_order_60 (v3 : Int32) (v5 : Int32) (v7 : Int32) (k151 : Int32 → Int32 → jMem → Option (Int32 × jMem)) : Nat → Int32 → Int32 → jMem → Option (Int32 × jMem)
  | 0, _, _, _ => none
  | n + 1, v4, v6, m =>
    if ((v5 >>> (v6 &&& 31)) &&& (1 : Int32)) = (1 : Int32) then
      if ((v5 >>> (v6 &&& 31)) &&& (1 : Int32)) = 0 then
        jld 1 m 147 v6 fun x6 =>
        if (x6 &&& (v5 ^^^ (-1 : Int32))) = 0 then
          jld 1 m 148 (v5 ||| ((1 : Int32) <<< (v6 &&& 31))) fun x7 =>
          lp_M_order_60 v3 v5 v7 k151 n (v4 - x7) (v6 + (1 : Int32)) m
        else
          lp_M_order_60 v3 v5 v7 k151 n v4 (v6 + (1 : Int32)) m
      else
        lp_M_order_60 v3 v5 v7 k151 n v4 (v6 + (1 : Int32)) m
    else
      jld 1 m 147 v6 fun x8 =>
      if (x8 &&& (v5 ^^^ (-1 : Int32))) = 0 then
        jld 1 m 148 (v5 ||| ((1 : Int32) <<< (v6 &&& 31))) fun x11 =>
        if v4 < x11 then
          k151 v4 v6 m
        else
          if ((v5 >>> (v6 &&& 31)) &&& (1 : Int32)) = 0 then
            jld 1 m 147 v6 fun x12 =>
            if (x12 &&& (v5 ^^^ (-1 : Int32))) = 0 then
              jld 1 m 148 (v5 ||| ((1 : Int32) <<< (v6 &&& 31))) fun x13 =>
              lp_M_order_60 v3 v5 v7 k151 n (v4 - x13) (v6 + (1 : Int32)) m
            else
              lp_M_order_60 v3 v5 v7 k151 n v4 (v6 + (1 : Int32)) m
          else
            lp_M_order_60 v3 v5 v7 k151 n v4 (v6 + (1 : Int32)) m
      else
        if ((v5 >>> (v6 &&& 31)) &&& (1 : Int32)) = 0 then
          jld 1 m 147 v6 fun x9 =>
          if (x9 &&& (v5 ^^^ (-1 : Int32))) = 0 then
            jld 1 m 148 (v5 ||| ((1 : Int32) <<< (v6 &&& 31))) fun x10 =>
            lp_M_order_60 v3 v5 v7 k151 n (v4 - x10) (v6 + (1 : Int32)) m
          else
            lp_M_order_60 v3 v5 v7 k151 n v4 (v6 + (1 : Int32)) m
        else
          lp_M_order_60 v3 v5 v7 k151 n v4 (v6 + (1 : Int32)) m
def lp_M_order_51 (v3 : Int32) (k166 : Int32 → jMem → Option (Int32 × jMem)) : Nat → Int32 → Int32 → Int32 → Int32 → jMem → Option (Int32 × jMem)
  | 0, _, _, _, _, _ => none
  | n + 1, v4, v5, v6, v7, m =>
    if v3 < v7 then
      k166 v6 m
    else
      lp_M_order_60 v3 v5 v7 (fun w15 w16 m14 =>
        lp_M_order_51 v3 k166 n w15 (v5 ||| ((1 : Int32) <<< (w16 &&& 31))) w16 (v7 + (1 : Int32)) m14) 5000 v4 (0 : Int32) m
def f_M_order (v1 : Int32) (v2 : Int32) (v3 : Int32) (m : jMem) : Option (Int32 × jMem) :=
  jpu m 109 0 (0 : Int32) fun m1 =>
  jbd (f_M_lay v1 m1) fun x2 m3 =>
  if x2 = 0 then
    some ((-1 : Int32), m3)
  else
    if v2 < 0 then
      some ((-1 : Int32), m3)
    else
      if v3 < 0 then
        some ((-1 : Int32), m3)
      else
        if (m3 109 67) ≤ v3 then
          some ((-1 : Int32), m3)
        else
          jbd (f_M_countOrders m3) fun x4 m5 =>
          if v2 < x4 then
            lp_M_order_51 v3 (fun w18 m17 =>
              jld 1 m17 146 w18 fun x19 =>
              some (x19, m17)) 5000 v2 (0 : Int32) (-1 : Int32) (0 : Int32) m5
          else
            some ((-1 : Int32), m5)
theorem jlp_M_order_60 {G : jG} (hG : jFul G) (v3 : Int32) (v5 : Int32) (v7 : Int32) (k151 : Int32 → Int32 → jMem → Option (Int32 × jMem))
    (hk151 : ∀ (v4 : Int32) (v6 : Int32) (m : jMem) (r : (Int32 × jMem)), k151 v4 v6 m = some r → J G Y_M_order 151 [(0, jr G 109), (3, .int v3), (4, .int v4), (5, .int v5), (6, .int v6), (7, .int v7)] [] m (jri r)) : ∀ (n : Nat) (v4 : Int32) (v6 : Int32) (m : jMem) (r : (Int32 × jMem)), lp_M_order_60 v3 v5 v7 k151 n v4 v6 m = some r → J G Y_M_order 60 [(0, jr G 109), (3, .int v3), (4, .int v4), (5, .int v5), (6, .int v6), (7, .int v7)] [] m (jri r) := by
  intro n
  induction n with
  | zero => intro v4 v6 m r h; unfold lp_M_order_60 at h; cases h
  | succ n ih =>
    intro v4 v6 m r h
    unfold lp_M_order_60 at h
    refine J.iload 3 d_M_order_60 rfl ?_
    refine J.iload 4 d_M_order_62 rfl ?_
    refine J.ishr d_M_order_64 ?_
    refine J.iconst (v := (1 : Int32)) d_M_order_65 ki_1 ?_
    refine J.iand d_M_order_66 ?_
    refine J.iconst (v := (1 : Int32)) d_M_order_67 ki_1 ?_
    refine J.icmp_eq 103 d_M_order_68 rfl (fun c => ?_) (fun c => ?_)
    · rw [if_pos c] at h
      refine J.iload 3 d_M_order_103 rfl ?_
      refine J.iload 4 d_M_order_105 rfl ?_
      refine J.ishr d_M_order_107 ?_
      refine J.iconst (v := (1 : Int32)) d_M_order_108 ki_1 ?_
      refine J.iand d_M_order_109 ?_
      refine J.if_ne 145 d_M_order_110 rfl (fun c => ?_) (fun c => ?_)
      · rw [if_neg c] at h
        refine J.iinc 4 (v := (1 : Int32)) (lv := [(6, .int (v6 + (1 : Int32))), (0, jr G 109), (3, .int v3), (4, .int v4), (5, .int v5), (7, .int v7)]) d_M_order_145 rfl ki_1 (by decide) rfl ?_
        refine J.goto 60 d_M_order_148 rfl ?_
        exact J.sub (ls' := [(0, jr G 109), (3, .int v3), (4, .int v4), (5, .int v5), (6, .int (v6 + (1 : Int32))), (7, .int v7)]) [1, 2, 3, 4, 0, 5] rfl (ih v4 (v6 + (1 : Int32)) m _ h)
      · rw [if_pos c] at h
        refine J.aload_n 0 d_M_order_113 rfl rfl ?_
        refine J.getF (n := 147) hG d_M_order_114 fl_M_126 ck_109_69 rfl ?_
        refine J.nop (pc' := 117) rfl ?_
        refine J.iload 4 d_M_order_117 rfl ?_
        obtain ⟨x6, ex6, g, h⟩ := jld_some h
        refine J.il hG d_M_order_119 g ex6 ?_
        refine J.iload 3 d_M_order_120 rfl ?_
        refine J.iconst (v := (-1 : Int32)) d_M_order_122 ki_m1 ?_
        refine J.ixor d_M_order_123 ?_
        refine J.iand d_M_order_124 ?_
        refine J.if_ne 145 d_M_order_125 rfl (fun c => ?_) (fun c => ?_)
        · rw [if_neg c] at h
          refine J.iinc 4 (v := (1 : Int32)) (lv := [(6, .int (v6 + (1 : Int32))), (0, jr G 109), (3, .int v3), (4, .int v4), (5, .int v5), (7, .int v7)]) d_M_order_145 rfl ki_1 (by decide) rfl ?_
          refine J.goto 60 d_M_order_148 rfl ?_
          exact J.sub (ls' := [(0, jr G 109), (3, .int v3), (4, .int v4), (5, .int v5), (6, .int (v6 + (1 : Int32))), (7, .int v7)]) [1, 2, 3, 4, 0, 5] rfl (ih v4 (v6 + (1 : Int32)) m _ h)
        · rw [if_pos c] at h
          refine J.iload 2 d_M_order_128 rfl ?_
          refine J.nop (pc' := 130) rfl ?_
          refine J.aload_n 0 d_M_order_130 rfl rfl ?_
          refine J.getF (n := 148) hG d_M_order_131 fl_M_129 ck_109_70 rfl ?_
          refine J.iload 3 d_M_order_134 rfl ?_
          refine J.iconst (v := (1 : Int32)) d_M_order_136 ki_1 ?_
          refine J.iload 4 d_M_order_137 rfl ?_
          refine J.ishl d_M_order_139 ?_
          refine J.ior d_M_order_140 ?_
          obtain ⟨x7, ex7, g, h⟩ := jld_some h
          refine J.il hG d_M_order_141 g ex7 ?_
          refine J.nop (pc' := 142) rfl ?_
          refine J.isub d_M_order_142 ?_
          refine J.istore (lv := [(4, .int (v4 - x7)), (0, jr G 109), (3, .int v3), (5, .int v5), (6, .int v6), (7, .int v7)]) d_M_order_143 (by decide) rfl ?_
          refine J.iinc 4 (v := (1 : Int32)) (lv := [(6, .int (v6 + (1 : Int32))), (4, .int (v4 - x7)), (0, jr G 109), (3, .int v3), (5, .int v5), (7, .int v7)]) d_M_order_145 rfl ki_1 (by decide) rfl ?_
          refine J.goto 60 d_M_order_148 rfl ?_
          exact J.sub (ls' := [(0, jr G 109), (3, .int v3), (4, .int (v4 - x7)), (5, .int v5), (6, .int (v6 + (1 : Int32))), (7, .int v7)]) [2, 3, 1, 4, 0, 5] rfl (ih (v4 - x7) (v6 + (1 : Int32)) m _ h)
    · rw [if_neg c] at h
      refine J.aload_n 0 d_M_order_71 rfl rfl ?_
      refine J.nop (pc' := 72) rfl ?_
      refine J.getF (n := 147) hG d_M_order_72 fl_M_126 ck_109_69 rfl ?_
      refine J.iload 4 d_M_order_75 rfl ?_
      obtain ⟨x8, ex8, g, h⟩ := jld_some h
      refine J.il hG d_M_order_77 g ex8 ?_
      refine J.iload 3 d_M_order_78 rfl ?_
      refine J.iconst (v := (-1 : Int32)) d_M_order_80 ki_m1 ?_
      refine J.ixor d_M_order_81 ?_
      refine J.iand d_M_order_82 ?_
      refine J.if_ne 103 d_M_order_83 rfl (fun c => ?_) (fun c => ?_)
      · rw [if_neg c] at h
        refine J.iload 3 d_M_order_103 rfl ?_
        refine J.iload 4 d_M_order_105 rfl ?_
        refine J.ishr d_M_order_107 ?_
        refine J.iconst (v := (1 : Int32)) d_M_order_108 ki_1 ?_
        refine J.iand d_M_order_109 ?_
        refine J.if_ne 145 d_M_order_110 rfl (fun c => ?_) (fun c => ?_)
        · rw [if_neg c] at h
          refine J.iinc 4 (v := (1 : Int32)) (lv := [(6, .int (v6 + (1 : Int32))), (0, jr G 109), (3, .int v3), (4, .int v4), (5, .int v5), (7, .int v7)]) d_M_order_145 rfl ki_1 (by decide) rfl ?_
          refine J.goto 60 d_M_order_148 rfl ?_
          exact J.sub (ls' := [(0, jr G 109), (3, .int v3), (4, .int v4), (5, .int v5), (6, .int (v6 + (1 : Int32))), (7, .int v7)]) [1, 2, 3, 4, 0, 5] rfl (ih v4 (v6 + (1 : Int32)) m _ h)
        · rw [if_pos c] at h
          refine J.aload_n 0 d_M_order_113 rfl rfl ?_
          refine J.getF (n := 147) hG d_M_order_114 fl_M_126 ck_109_69 rfl ?_
          refine J.nop (pc' := 117) rfl ?_
          refine J.iload 4 d_M_order_117 rfl ?_
          obtain ⟨x9, ex9, g, h⟩ := jld_some h
          refine J.il hG d_M_order_119 g ex9 ?_
          refine J.iload 3 d_M_order_120 rfl ?_
          refine J.iconst (v := (-1 : Int32)) d_M_order_122 ki_m1 ?_
          refine J.ixor d_M_order_123 ?_
          refine J.iand d_M_order_124 ?_
          refine J.if_ne 145 d_M_order_125 rfl (fun c => ?_) (fun c => ?_)
          · rw [if_neg c] at h
            refine J.iinc 4 (v := (1 : Int32)) (lv := [(6, .int (v6 + (1 : Int32))), (0, jr G 109), (3, .int v3), (4, .int v4), (5, .int v5), (7, .int v7)]) d_M_order_145 rfl ki_1 (by decide) rfl ?_
            refine J.goto 60 d_M_order_148 rfl ?_
            exact J.sub (ls' := [(0, jr G 109), (3, .int v3), (4, .int v4), (5, .int v5), (6, .int (v6 + (1 : Int32))), (7, .int v7)]) [1, 2, 3, 4, 0, 5] rfl (ih v4 (v6 + (1 : Int32)) m _ h)
          · rw [if_pos c] at h
            refine J.iload 2 d_M_order_128 rfl ?_
            refine J.nop (pc' := 130) rfl ?_
            refine J.aload_n 0 d_M_order_130 rfl rfl ?_
            refine J.getF (n := 148) hG d_M_order_131 fl_M_129 ck_109_70 rfl ?_
            refine J.iload 3 d_M_order_134 rfl ?_
            refine J.iconst (v := (1 : Int32)) d_M_order_136 ki_1 ?_
            refine J.iload 4 d_M_order_137 rfl ?_
            refine J.ishl d_M_order_139 ?_
            refine J.ior d_M_order_140 ?_
            obtain ⟨x10, ex10, g, h⟩ := jld_some h
            refine J.il hG d_M_order_141 g ex10 ?_
            refine J.nop (pc' := 142) rfl ?_
            refine J.isub d_M_order_142 ?_
            refine J.istore (lv := [(4, .int (v4 - x10)), (0, jr G 109), (3, .int v3), (5, .int v5), (6, .int v6), (7, .int v7)]) d_M_order_143 (by decide) rfl ?_
            refine J.iinc 4 (v := (1 : Int32)) (lv := [(6, .int (v6 + (1 : Int32))), (4, .int (v4 - x10)), (0, jr G 109), (3, .int v3), (5, .int v5), (7, .int v7)]) d_M_order_145 rfl ki_1 (by decide) rfl ?_
            refine J.goto 60 d_M_order_148 rfl ?_
            exact J.sub (ls' := [(0, jr G 109), (3, .int v3), (4, .int (v4 - x10)), (5, .int v5), (6, .int (v6 + (1 : Int32))), (7, .int v7)]) [2, 3, 1, 4, 0, 5] rfl (ih (v4 - x10) (v6 + (1 : Int32)) m _ h)
      · rw [if_pos c] at h
        refine J.nop (pc' := 86) rfl ?_
        refine J.iload 2 d_M_order_86 rfl ?_
        refine J.aload_n 0 d_M_order_88 rfl rfl ?_
        refine J.getF (n := 148) hG d_M_order_89 fl_M_129 ck_109_70 rfl ?_
        refine J.iload 3 d_M_order_92 rfl ?_
        refine J.iconst (v := (1 : Int32)) d_M_order_94 ki_1 ?_
        refine J.iload 4 d_M_order_95 rfl ?_
        refine J.ishl d_M_order_97 ?_
        refine J.ior d_M_order_98 ?_
        refine J.nop (pc' := 99) rfl ?_
        obtain ⟨x11, ex11, g, h⟩ := jld_some h
        refine J.il hG d_M_order_99 g ex11 ?_
        refine J.icmp_lt 151 d_M_order_100 rfl (fun c => ?_) (fun c => ?_)
        · rw [if_pos c] at h
          exact J.sub (ls' := [(0, jr G 109), (3, .int v3), (4, .int v4), (5, .int v5), (6, .int v6), (7, .int v7)]) [0, 1, 2, 3, 4, 5] rfl (hk151 v4 v6 m _ h)
        · rw [if_neg c] at h
          refine J.iload 3 d_M_order_103 rfl ?_
          refine J.iload 4 d_M_order_105 rfl ?_
          refine J.ishr d_M_order_107 ?_
          refine J.iconst (v := (1 : Int32)) d_M_order_108 ki_1 ?_
          refine J.iand d_M_order_109 ?_
          refine J.if_ne 145 d_M_order_110 rfl (fun c => ?_) (fun c => ?_)
          · rw [if_neg c] at h
            refine J.iinc 4 (v := (1 : Int32)) (lv := [(6, .int (v6 + (1 : Int32))), (0, jr G 109), (3, .int v3), (4, .int v4), (5, .int v5), (7, .int v7)]) d_M_order_145 rfl ki_1 (by decide) rfl ?_
            refine J.goto 60 d_M_order_148 rfl ?_
            exact J.sub (ls' := [(0, jr G 109), (3, .int v3), (4, .int v4), (5, .int v5), (6, .int (v6 + (1 : Int32))), (7, .int v7)]) [1, 2, 3, 4, 0, 5] rfl (ih v4 (v6 + (1 : Int32)) m _ h)
          · rw [if_pos c] at h
            refine J.nop (pc' := 113) rfl ?_
            refine J.aload_n 0 d_M_order_113 rfl rfl ?_
            refine J.getF (n := 147) hG d_M_order_114 fl_M_126 ck_109_69 rfl ?_
            refine J.iload 4 d_M_order_117 rfl ?_
            obtain ⟨x12, ex12, g, h⟩ := jld_some h
            refine J.il hG d_M_order_119 g ex12 ?_
            refine J.iload 3 d_M_order_120 rfl ?_
            refine J.iconst (v := (-1 : Int32)) d_M_order_122 ki_m1 ?_
            refine J.ixor d_M_order_123 ?_
            refine J.iand d_M_order_124 ?_
            refine J.nop (pc' := 125) rfl ?_
            refine J.if_ne 145 d_M_order_125 rfl (fun c => ?_) (fun c => ?_)
            · rw [if_neg c] at h
              refine J.iinc 4 (v := (1 : Int32)) (lv := [(6, .int (v6 + (1 : Int32))), (0, jr G 109), (3, .int v3), (4, .int v4), (5, .int v5), (7, .int v7)]) d_M_order_145 rfl ki_1 (by decide) rfl ?_
              refine J.goto 60 d_M_order_148 rfl ?_
              exact J.sub (ls' := [(0, jr G 109), (3, .int v3), (4, .int v4), (5, .int v5), (6, .int (v6 + (1 : Int32))), (7, .int v7)]) [1, 2, 3, 4, 0, 5] rfl (ih v4 (v6 + (1 : Int32)) m _ h)
            · rw [if_pos c] at h
              refine J.iload 2 d_M_order_128 rfl ?_
              refine J.aload_n 0 d_M_order_130 rfl rfl ?_
              refine J.getF (n := 148) hG d_M_order_131 fl_M_129 ck_109_70 rfl ?_
              refine J.iload 3 d_M_order_134 rfl ?_
              refine J.iconst (v := (1 : Int32)) d_M_order_136 ki_1 ?_
              refine J.iload 4 d_M_order_137 rfl ?_
              refine J.ishl d_M_order_139 ?_
              refine J.nop (pc' := 140) rfl ?_
              refine J.ior d_M_order_140 ?_
              obtain ⟨x13, ex13, g, h⟩ := jld_some h
              refine J.il hG d_M_order_141 g ex13 ?_
              refine J.isub d_M_order_142 ?_
              refine J.istore (lv := [(4, .int (v4 - x13)), (0, jr G 109), (3, .int v3), (5, .int v5), (6, .int v6), (7, .int v7)]) d_M_order_143 (by decide) rfl ?_
              refine J.iinc 4 (v := (1 : Int32)) (lv := [(6, .int (v6 + (1 : Int32))), (4, .int (v4 - x13)), (0, jr G 109), (3, .int v3), (5, .int v5), (7, .int v7)]) d_M_order_145 rfl ki_1 (by decide) rfl ?_
              refine J.goto 60 d_M_order_148 rfl ?_
              exact J.sub (ls' := [(0, jr G 109), (3, .int v3), (4, .int (v4 - x13)), (5, .int v5), (6, .int (v6 + (1 : Int32))), (7, .int v7)]) [2, 3, 1, 4, 0, 5] rfl (ih (v4 - x13) (v6 + (1 : Int32)) m _ h)
theorem jlp_M_order_51 {G : jG} (hG : jFul G) (v3 : Int32) (k166 : Int32 → jMem → Option (Int32 × jMem))
    (hk166 : ∀ (v6 : Int32) (m : jMem) (r : (Int32 × jMem)), k166 v6 m = some r → J G Y_M_order 166 [(0, jr G 109), (6, .int v6)] [] m (jri r)) : ∀ (n : Nat) (v4 : Int32) (v5 : Int32) (v6 : Int32) (v7 : Int32) (m : jMem) (r : (Int32 × jMem)), lp_M_order_51 v3 k166 n v4 v5 v6 v7 m = some r → J G Y_M_order 51 [(0, jr G 109), (3, .int v3), (4, .int v4), (5, .int v5), (6, .int v6), (7, .int v7)] [] m (jri r) := by
  intro n
  induction n with
  | zero => intro v4 v5 v6 v7 m r h; unfold lp_M_order_51 at h; cases h
  | succ n ih =>
    intro v4 v5 v6 v7 m r h
    unfold lp_M_order_51 at h
    refine J.iload 5 d_M_order_51 rfl ?_
    refine J.iload_n 1 d_M_order_53 rfl rfl ?_
    refine J.icmp_gt 166 d_M_order_54 rfl (fun c => ?_) (fun c => ?_)
    · rw [if_pos c] at h
      exact J.sub (ls' := [(0, jr G 109), (6, .int v6)]) [0, 4] rfl (hk166 v6 m _ h)
    · rw [if_neg c] at h
      refine J.iconst (v := (0 : Int32)) d_M_order_57 ki_0 ?_
      refine J.istore (lv := [(6, .int (0 : Int32)), (0, jr G 109), (3, .int v3), (4, .int v4), (5, .int v5), (7, .int v7)]) d_M_order_58 (by decide) rfl ?_
      refine J.sub (ls' := [(0, jr G 109), (3, .int v3), (4, .int v4), (5, .int v5), (6, .int (0 : Int32)), (7, .int v7)]) [1, 2, 3, 4, 0, 5] rfl ?_
      refine jlp_M_order_60 hG v3 v5 v7 _ ?_ _ v4 (0 : Int32) m _ h
      intro w15 w16 m14 r h
      refine J.iload 3 d_M_order_151 rfl ?_
      refine J.iconst (v := (1 : Int32)) d_M_order_153 ki_1 ?_
      refine J.iload 4 d_M_order_154 rfl ?_
      refine J.ishl d_M_order_156 ?_
      refine J.ior d_M_order_157 ?_
      refine J.istore (lv := [(5, .int (v5 ||| ((1 : Int32) <<< (w16 &&& 31)))), (0, jr G 109), (3, .int v3), (4, .int w15), (6, .int w16), (7, .int v7)]) d_M_order_158 (by decide) rfl ?_
      refine J.iinc 5 (v := (1 : Int32)) (lv := [(7, .int (v7 + (1 : Int32))), (5, .int (v5 ||| ((1 : Int32) <<< (w16 &&& 31)))), (0, jr G 109), (3, .int v3), (4, .int w15), (6, .int w16)]) d_M_order_160 rfl ki_1 (by decide) rfl ?_
      refine J.goto 51 d_M_order_163 rfl ?_
      exact J.sub (ls' := [(0, jr G 109), (3, .int v3), (4, .int w15), (5, .int (v5 ||| ((1 : Int32) <<< (w16 &&& 31)))), (6, .int w16), (7, .int (v7 + (1 : Int32)))]) [2, 3, 4, 1, 5, 0] rfl (ih w15 (v5 ||| ((1 : Int32) <<< (w16 &&& 31))) w16 (v7 + (1 : Int32)) m14 _ h)
theorem c_M_order {G : jG} (hG : jFul G) {v1 : Int32} {v2 : Int32} {v3 : Int32} {m : jMem} {r : (Int32 × jMem)} (h : f_M_order v1 v2 v3 m = some r) : jCt G Y_M_order [jr G 109, .int v1, .int v2, .int v3] m (jri r) := by
  refine jCt.ov (ls := [(0, jr G 109), (1, .int v1), (2, .int v2), (3, .int v3)]) mi_M_order (jAvR (jAvI (jAvI (jAvI jAvN)))) (Nat.le_of_ble_eq_true rfl) ?_ ⟨rfl, rfl⟩
  unfold f_M_order at h
  refine J.aload_n 0 d_M_order_0 rfl rfl ?_
  refine J.iconst (v := (0 : Int32)) d_M_order_1 ki_0 ?_
  obtain ⟨m1, hm1, h⟩ := jpu_some h
  refine J.putI hG d_M_order_2 fl_M_132 fp_10_0 ck_109_0 hm1 ?_
  refine J.aload_n 0 d_M_order_5 rfl rfl ?_
  refine J.iload_n 1 d_M_order_6 rfl rfl ?_
  obtain ⟨x2, m3, zm3, h⟩ := jbd_some h
  refine J.cVi Y_M_lay (As := [.int v1]) (rest := []) hG d_M_order_7 mi_M_lay mv_M_lay lk_M_431 ⟨rfl, rfl, Nat.le_of_ble_eq_true rfl⟩ cq_109 cc_10 (c_M_lay hG zm3) rfl (Nat.le_trans jcN (Nat.le_of_ble_eq_true rfl)) ?_
  refine J.if_eq 37 d_M_order_10 rfl (fun c => ?_) (fun c => ?_)
  · rw [if_pos c] at h
    refine J.iconst (v := (-1 : Int32)) d_M_order_37 ki_m1 ?_
    cases h
    exact J.iret d_M_order_38 rfl (vp_nar_int _) rfl
  · rw [if_neg c] at h
    refine J.iload_n 2 d_M_order_13 rfl rfl ?_
    refine J.nop (pc' := 14) rfl ?_
    refine J.if_lt 37 d_M_order_14 rfl (fun c => ?_) (fun c => ?_)
    · rw [if_pos c] at h
      refine J.iconst (v := (-1 : Int32)) d_M_order_37 ki_m1 ?_
      cases h
      exact J.iret d_M_order_38 rfl (vp_nar_int _) rfl
    · rw [if_neg c] at h
      refine J.iload_n 3 d_M_order_17 rfl rfl ?_
      refine J.if_lt 37 d_M_order_18 rfl (fun c => ?_) (fun c => ?_)
      · rw [if_pos c] at h
        refine J.iconst (v := (-1 : Int32)) d_M_order_37 ki_m1 ?_
        cases h
        exact J.iret d_M_order_38 rfl (vp_nar_int _) rfl
      · rw [if_neg c] at h
        refine J.iload_n 3 d_M_order_21 rfl rfl ?_
        refine J.aload_n 0 d_M_order_22 rfl rfl ?_
        refine J.getI hG d_M_order_23 fl_M_425 ck_109_67 ?_
        refine J.icmp_ge 37 d_M_order_26 rfl (fun c => ?_) (fun c => ?_)
        · rw [if_pos c] at h
          refine J.iconst (v := (-1 : Int32)) d_M_order_37 ki_m1 ?_
          cases h
          exact J.iret d_M_order_38 rfl (vp_nar_int _) rfl
        · rw [if_neg c] at h
          refine J.iload_n 2 d_M_order_29 rfl rfl ?_
          refine J.nop (pc' := 30) rfl ?_
          refine J.aload_n 0 d_M_order_30 rfl rfl ?_
          obtain ⟨x4, m5, zm5, h⟩ := jbd_some h
          refine J.cVi Y_M_countOrders (As := []) (rest := [.int v2]) hG d_M_order_31 mi_M_countOrders mv_M_countOrders lk_M_434 ⟨rfl, rfl, Nat.le_of_ble_eq_true rfl⟩ cq_109 cc_10 (c_M_countOrders hG zm5) rfl (Nat.le_trans (jcI jcN) (Nat.le_of_ble_eq_true rfl)) ?_
          refine J.icmp_lt 39 d_M_order_34 rfl (fun c => ?_) (fun c => ?_)
          · rw [if_pos c] at h
            refine J.iload_n 2 d_M_order_39 rfl rfl ?_
            refine J.istore (lv := [(4, .int v2), (0, jr G 109), (1, .int v1), (2, .int v2), (3, .int v3)]) d_M_order_40 (by decide) rfl ?_
            refine J.iconst (v := (0 : Int32)) d_M_order_42 ki_0 ?_
            refine J.istore (lv := [(5, .int (0 : Int32)), (4, .int v2), (0, jr G 109), (1, .int v1), (2, .int v2), (3, .int v3)]) d_M_order_43 (by decide) rfl ?_
            refine J.iconst (v := (-1 : Int32)) d_M_order_45 ki_m1 ?_
            refine J.istore (lv := [(6, .int (-1 : Int32)), (5, .int (0 : Int32)), (4, .int v2), (0, jr G 109), (1, .int v1), (2, .int v2), (3, .int v3)]) d_M_order_46 (by decide) rfl ?_
            refine J.iconst (v := (0 : Int32)) d_M_order_48 ki_0 ?_
            refine J.istore (lv := [(7, .int (0 : Int32)), (6, .int (-1 : Int32)), (5, .int (0 : Int32)), (4, .int v2), (0, jr G 109), (1, .int v1), (2, .int v2), (3, .int v3)]) d_M_order_49 (by decide) rfl ?_
            refine J.sub (ls' := [(0, jr G 109), (3, .int v3), (4, .int v2), (5, .int (0 : Int32)), (6, .int (-1 : Int32)), (7, .int (0 : Int32))]) [4, 7, 3, 2, 1, 0] rfl ?_
            refine jlp_M_order_51 hG v3 _ ?_ _ v2 (0 : Int32) (-1 : Int32) (0 : Int32) m5 _ h
            intro w18 m17 r h
            refine J.aload_n 0 d_M_order_166 rfl rfl ?_
            refine J.getF (n := 146) hG d_M_order_167 fl_M_123 ck_109_68 rfl ?_
            refine J.iload 1 d_M_order_170 rfl ?_
            obtain ⟨x19, ex19, g, h⟩ := jld_some h
            refine J.il hG d_M_order_172 g ex19 ?_
            cases h
            exact J.iret d_M_order_173 rfl (vp_nar_int _) rfl
          · rw [if_neg c] at h
            refine J.iconst (v := (-1 : Int32)) d_M_order_37 ki_m1 ?_
            cases h
            exact J.iret d_M_order_38 rfl (vp_nar_int _) rfl

def f_M_firsts (v1 : Int32) (v2 : Int32) (m : jMem) : Option (Int32 × jMem) :=
  jld 1 m 147 v2 fun x1 =>
  jld 1 m 147 v2 fun x2 =>
  jst 1 m 147 v2 (x2 ||| ((1 : Int32) <<< (v1 &&& 31))) fun m3 =>
  jbd (f_M_countOrders m3) fun x4 m5 =>
  jst 1 m5 147 v2 x1 fun m6 =>
  some (x4, m6)
theorem c_M_firsts {G : jG} (hG : jFul G) {v1 : Int32} {v2 : Int32} {m : jMem} {r : (Int32 × jMem)} (h : f_M_firsts v1 v2 m = some r) : jCt G Y_M_firsts [jr G 109, .int v1, .int v2] m (jri r) := by
  refine jCt.ov (ls := [(0, jr G 109), (1, .int v1), (2, .int v2)]) mi_M_firsts (jAvR (jAvI (jAvI jAvN))) (Nat.le_of_ble_eq_true rfl) ?_ ⟨rfl, rfl⟩
  unfold f_M_firsts at h
  refine J.aload_n 0 d_M_firsts_0 rfl rfl ?_
  refine J.getF (n := 147) hG d_M_firsts_1 fl_M_126 ck_109_69 rfl ?_
  refine J.iload_n 2 d_M_firsts_4 rfl rfl ?_
  obtain ⟨x1, ex1, g, h⟩ := jld_some h
  refine J.il hG d_M_firsts_5 g ex1 ?_
  refine J.istore_n (lv := [(3, .int x1), (0, jr G 109), (1, .int v1), (2, .int v2)]) d_M_firsts_6 rfl (by decide) rfl ?_
  refine J.aload_n 1 d_M_firsts_7 rfl rfl ?_
  refine J.getF (n := 147) hG d_M_firsts_8 fl_M_126 ck_109_69 rfl ?_
  refine J.iload_n 3 d_M_firsts_11 rfl rfl ?_
  refine J.nop (pc' := 12) rfl ?_
  refine J.dup2 d_M_firsts_12 rfl (jr_cat _ _) ?_
  obtain ⟨x2, ex2, g, h⟩ := jld_some h
  refine J.il hG d_M_firsts_13 g ex2 ?_
  refine J.iconst (v := (1 : Int32)) d_M_firsts_14 ki_1 ?_
  refine J.iload_n 2 d_M_firsts_15 rfl rfl ?_
  refine J.ishl d_M_firsts_16 ?_
  refine J.ior d_M_firsts_17 ?_
  obtain ⟨m3, hm3, g, h⟩ := jst_some h
  refine J.is hG d_M_firsts_18 g hm3 ?_
  refine J.aload_n 1 d_M_firsts_19 rfl rfl ?_
  refine J.nop (pc' := 20) rfl ?_
  obtain ⟨x4, m5, zm5, h⟩ := jbd_some h
  refine J.cVi Y_M_countOrders (As := []) (rest := []) hG d_M_firsts_20 mi_M_countOrders mv_M_countOrders lk_M_434 ⟨rfl, rfl, Nat.le_of_ble_eq_true rfl⟩ cq_109 cc_10 (c_M_countOrders hG zm5) rfl (Nat.le_trans jcN (Nat.le_of_ble_eq_true rfl)) ?_
  refine J.istore (lv := [(4, .int x4), (3, .int x1), (0, jr G 109), (1, .int v1), (2, .int v2)]) d_M_firsts_23 (by decide) rfl ?_
  refine J.aload_n 2 d_M_firsts_25 rfl rfl ?_
  refine J.getF (n := 147) hG d_M_firsts_26 fl_M_126 ck_109_69 rfl ?_
  refine J.iload_n 4 d_M_firsts_29 rfl rfl ?_
  refine J.iload_n 1 d_M_firsts_30 rfl rfl ?_
  obtain ⟨m6, hm6, g, h⟩ := jst_some h
  refine J.is hG d_M_firsts_31 g hm6 ?_
  refine J.iload 0 d_M_firsts_32 rfl ?_
  refine J.nop (pc' := 34) rfl ?_
  cases h
  exact J.iret d_M_firsts_34 rfl (vp_nar_int _) rfl

def f_M_first (v1 : Int32) (v2 : Int32) (v3 : Int32) (m : jMem) : Option (Int32 × jMem) :=
  jpu m 109 0 (0 : Int32) fun m1 =>
  jbd (f_M_lay v1 m1) fun x2 m3 =>
  if x2 = 0 then
    some ((-1 : Int32), m3)
  else
    if v2 = v3 then
      some ((-1 : Int32), m3)
    else
      jbd (f_M_placeOf v2 m3) fun x4 m5 =>
      if x4 = (-1 : Int32) then
        some ((-1 : Int32), m5)
      else
        jbd (f_M_placeOf v3 m5) fun x6 m7 =>
        if x6 = (-1 : Int32) then
          some ((-1 : Int32), m7)
        else
          jbd (f_M_placeOf v2 m7) fun x8 m9 =>
          jbd (f_M_placeOf v3 m9) fun x10 m11 =>
          jbd (f_M_firsts x8 x10 m11) fun x12 m13 =>
          some (x12, m13)
theorem c_M_first {G : jG} (hG : jFul G) {v1 : Int32} {v2 : Int32} {v3 : Int32} {m : jMem} {r : (Int32 × jMem)} (h : f_M_first v1 v2 v3 m = some r) : jCt G Y_M_first [jr G 109, .int v1, .int v2, .int v3] m (jri r) := by
  refine jCt.ov (ls := [(0, jr G 109), (1, .int v1), (2, .int v2), (3, .int v3)]) mi_M_first (jAvR (jAvI (jAvI (jAvI jAvN)))) (Nat.le_of_ble_eq_true rfl) ?_ ⟨rfl, rfl⟩
  unfold f_M_first at h
  refine J.aload_n 0 d_M_first_0 rfl rfl ?_
  refine J.iconst (v := (0 : Int32)) d_M_first_1 ki_0 ?_
  obtain ⟨m1, hm1, h⟩ := jpu_some h
  refine J.putI hG d_M_first_2 fl_M_132 fp_10_0 ck_109_0 hm1 ?_
  refine J.aload_n 0 d_M_first_5 rfl rfl ?_
  refine J.iload_n 1 d_M_first_6 rfl rfl ?_
  obtain ⟨x2, m3, zm3, h⟩ := jbd_some h
  refine J.cVi Y_M_lay (As := [.int v1]) (rest := []) hG d_M_first_7 mi_M_lay mv_M_lay lk_M_431 ⟨rfl, rfl, Nat.le_of_ble_eq_true rfl⟩ cq_109 cc_10 (c_M_lay hG zm3) rfl (Nat.le_trans jcN (Nat.le_of_ble_eq_true rfl)) ?_
  refine J.if_eq 36 d_M_first_10 rfl (fun c => ?_) (fun c => ?_)
  · rw [if_pos c] at h
    refine J.iconst (v := (-1 : Int32)) d_M_first_36 ki_m1 ?_
    cases h
    exact J.iret d_M_first_37 rfl (vp_nar_int _) rfl
  · rw [if_neg c] at h
    refine J.iload_n 2 d_M_first_13 rfl rfl ?_
    refine J.nop (pc' := 14) rfl ?_
    refine J.iload_n 3 d_M_first_14 rfl rfl ?_
    refine J.icmp_eq 36 d_M_first_15 rfl (fun c => ?_) (fun c => ?_)
    · rw [if_pos c] at h
      refine J.iconst (v := (-1 : Int32)) d_M_first_36 ki_m1 ?_
      cases h
      exact J.iret d_M_first_37 rfl (vp_nar_int _) rfl
    · rw [if_neg c] at h
      refine J.aload_n 0 d_M_first_18 rfl rfl ?_
      refine J.iload_n 2 d_M_first_19 rfl rfl ?_
      obtain ⟨x4, m5, zm5, h⟩ := jbd_some h
      refine J.cVi Y_M_placeOf (As := [.int v2]) (rest := []) hG d_M_first_20 mi_M_placeOf mv_M_placeOf lk_M_428 ⟨rfl, rfl, Nat.le_of_ble_eq_true rfl⟩ cq_109 cc_10 (c_M_placeOf hG zm5) rfl (Nat.le_trans jcN (Nat.le_of_ble_eq_true rfl)) ?_
      refine J.iconst (v := (-1 : Int32)) d_M_first_23 ki_m1 ?_
      refine J.icmp_eq 36 d_M_first_24 rfl (fun c => ?_) (fun c => ?_)
      · rw [if_pos c] at h
        refine J.iconst (v := (-1 : Int32)) d_M_first_36 ki_m1 ?_
        cases h
        exact J.iret d_M_first_37 rfl (vp_nar_int _) rfl
      · rw [if_neg c] at h
        refine J.aload_n 0 d_M_first_27 rfl rfl ?_
        refine J.nop (pc' := 28) rfl ?_
        refine J.iload_n 3 d_M_first_28 rfl rfl ?_
        obtain ⟨x6, m7, zm7, h⟩ := jbd_some h
        refine J.cVi Y_M_placeOf (As := [.int v3]) (rest := []) hG d_M_first_29 mi_M_placeOf mv_M_placeOf lk_M_428 ⟨rfl, rfl, Nat.le_of_ble_eq_true rfl⟩ cq_109 cc_10 (c_M_placeOf hG zm7) rfl (Nat.le_trans jcN (Nat.le_of_ble_eq_true rfl)) ?_
        refine J.iconst (v := (-1 : Int32)) d_M_first_32 ki_m1 ?_
        refine J.icmp_ne 38 d_M_first_33 rfl (fun c => ?_) (fun c => ?_)
        · rw [if_neg c] at h
          refine J.aload_n 0 d_M_first_38 rfl rfl ?_
          refine J.aload_n 0 d_M_first_39 rfl rfl ?_
          refine J.iload_n 2 d_M_first_40 rfl rfl ?_
          obtain ⟨x8, m9, zm9, h⟩ := jbd_some h
          refine J.cVi Y_M_placeOf (As := [.int v2]) (rest := [jr G 109]) hG d_M_first_41 mi_M_placeOf mv_M_placeOf lk_M_428 ⟨rfl, rfl, Nat.le_of_ble_eq_true rfl⟩ cq_109 cc_10 (c_M_placeOf hG zm9) rfl (Nat.le_trans (jcR jcN) (Nat.le_of_ble_eq_true rfl)) ?_
          refine J.aload_n 0 d_M_first_44 rfl rfl ?_
          refine J.iload_n 3 d_M_first_45 rfl rfl ?_
          obtain ⟨x10, m11, zm11, h⟩ := jbd_some h
          refine J.cVi Y_M_placeOf (As := [.int v3]) (rest := [.int x8, jr G 109]) hG d_M_first_46 mi_M_placeOf mv_M_placeOf lk_M_428 ⟨rfl, rfl, Nat.le_of_ble_eq_true rfl⟩ cq_109 cc_10 (c_M_placeOf hG zm11) rfl (Nat.le_trans (jcI (jcR jcN)) (Nat.le_of_ble_eq_true rfl)) ?_
          obtain ⟨x12, m13, zm13, h⟩ := jbd_some h
          refine J.cVi Y_M_firsts (As := [.int x8, .int x10]) (rest := []) hG d_M_first_49 mi_M_firsts mv_M_firsts lk_M_437 ⟨rfl, rfl, Nat.le_of_ble_eq_true rfl⟩ cq_109 cc_10 (c_M_firsts hG zm13) rfl (Nat.le_trans jcN (Nat.le_of_ble_eq_true rfl)) ?_
          refine J.nop (pc' := 52) rfl ?_
          cases h
          exact J.iret d_M_first_52 rfl (vp_nar_int _) rfl
        · rw [if_pos c] at h
          refine J.iconst (v := (-1 : Int32)) d_M_first_36 ki_m1 ?_
          cases h
          exact J.iret d_M_first_37 rfl (vp_nar_int _) rfl

def lp_M_ask_51 (v2 : Int32) (v5 : Int32) (k120 : Int32 → Int32 → jMem → Option (Int32 × jMem)) : Nat → Int32 → Int32 → Int32 → jMem → Option (Int32 × jMem)
  | 0, _, _, _, _ => none
  | n + 1, v3, v4, v6, m =>
    if (m 109 67) ≤ v6 then
      k120 v3 v4 m
    else
      jbd (f_M_firsts v5 v6 m) fun x6 m7 =>
      if v4 < (jmin x6 (v2 - x6)) then
        jld 1 m7 146 v5 fun x8 =>
        jld 1 m7 146 v6 fun x9 =>
        lp_M_ask_51 v2 v5 k120 n (((32 : Int32) * x8) + x9) (jmin x6 (v2 - x6)) (v6 + (1 : Int32)) m7
      else
        lp_M_ask_51 v2 v5 k120 n v3 v4 (v6 + (1 : Int32)) m7
def lp_M_ask_36 (v2 : Int32) (k126 : Int32 → jMem → Option (Int32 × jMem)) : Nat → Int32 → Int32 → Int32 → jMem → Option (Int32 × jMem)
  | 0, _, _, _, _ => none
  | n + 1, v3, v4, v5, m =>
    if (m 109 67) ≤ v5 then
      k126 v3 m
    else
      lp_M_ask_51 v2 v5 (fun w11 w12 m10 =>
        lp_M_ask_36 v2 k126 n w11 w12 (v5 + (1 : Int32)) m10) 5000 v3 v4 (v5 + (1 : Int32)) m
def f_M_ask (v1 : Int32) (m : jMem) : Option (Int32 × jMem) :=
  jpu m 109 0 (0 : Int32) fun m1 =>
  jbd (f_M_lay v1 m1) fun x2 m3 =>
  if x2 = 0 then
    some ((-1 : Int32), m3)
  else
    if (2 : Int32) ≤ (m3 109 67) then
      jbd (f_M_countOrders m3) fun x4 m5 =>
      lp_M_ask_36 x4 (fun w14 m13 =>
        some (w14, m13)) 5000 (-1 : Int32) (-1 : Int32) (0 : Int32) m5
    else
      some ((-1 : Int32), m3)
theorem jlp_M_ask_51 {G : jG} (hG : jFul G) (v2 : Int32) (v5 : Int32) (k120 : Int32 → Int32 → jMem → Option (Int32 × jMem))
    (hk120 : ∀ (v3 : Int32) (v4 : Int32) (m : jMem) (r : (Int32 × jMem)), k120 v3 v4 m = some r → J G Y_M_ask 120 [(0, jr G 109), (2, .int v2), (3, .int v3), (4, .int v4), (5, .int v5)] [] m (jri r)) : ∀ (n : Nat) (v3 : Int32) (v4 : Int32) (v6 : Int32) (m : jMem) (r : (Int32 × jMem)), lp_M_ask_51 v2 v5 k120 n v3 v4 v6 m = some r → J G Y_M_ask 51 [(0, jr G 109), (2, .int v2), (3, .int v3), (4, .int v4), (5, .int v5), (6, .int v6)] [] m (jri r) := by
  intro n
  induction n with
  | zero => intro v3 v4 v6 m r h; unfold lp_M_ask_51 at h; cases h
  | succ n ih =>
    intro v3 v4 v6 m r h
    unfold lp_M_ask_51 at h
    refine J.iload 5 d_M_ask_51 rfl ?_
    refine J.aload_n 0 d_M_ask_53 rfl rfl ?_
    refine J.getI hG d_M_ask_54 fl_M_425 ck_109_67 ?_
    refine J.icmp_ge 120 d_M_ask_57 rfl (fun c => ?_) (fun c => ?_)
    · rw [if_pos c] at h
      exact J.sub (ls' := [(0, jr G 109), (2, .int v2), (3, .int v3), (4, .int v4), (5, .int v5)]) [0, 1, 2, 3, 4] rfl (hk120 v3 v4 m _ h)
    · rw [if_neg c] at h
      refine J.aload_n 0 d_M_ask_60 rfl rfl ?_
      refine J.iload 4 d_M_ask_61 rfl ?_
      refine J.iload 5 d_M_ask_63 rfl ?_
      obtain ⟨x6, m7, zm7, h⟩ := jbd_some h
      refine J.cVi Y_M_firsts (As := [.int v5, .int v6]) (rest := []) hG d_M_ask_65 mi_M_firsts mv_M_firsts lk_M_437 ⟨rfl, rfl, Nat.le_of_ble_eq_true rfl⟩ cq_109 cc_10 (c_M_firsts hG zm7) rfl (Nat.le_trans jcN (Nat.le_of_ble_eq_true rfl)) ?_
      refine J.nop (pc' := 68) rfl ?_
      refine J.istore (lv := [(7, .int x6), (0, jr G 109), (2, .int v2), (3, .int v3), (4, .int v4), (5, .int v5), (6, .int v6)]) d_M_ask_68 (by decide) rfl ?_
      refine J.iload 0 d_M_ask_70 rfl ?_
      refine J.iload_n 2 d_M_ask_72 rfl rfl ?_
      refine J.iload 0 d_M_ask_73 rfl ?_
      refine J.isub d_M_ask_75 ?_
      refine J.mn d_M_ask_76 (jt_8 23 rfl rfl) (jt_2 223 rfl rfl) (jt_1 14 rfl rfl) (jt_2 224 rfl rfl) (Nat.le_trans jcN (Nat.le_of_ble_eq_true rfl)) ?_
      refine J.istore (lv := [(8, .int (jmin x6 (v2 - x6))), (7, .int x6), (0, jr G 109), (2, .int v2), (3, .int v3), (4, .int v4), (5, .int v5), (6, .int v6)]) d_M_ask_79 (by decide) rfl ?_
      refine J.iload 0 d_M_ask_81 rfl ?_
      refine J.nop (pc' := 83) rfl ?_
      refine J.iload 5 d_M_ask_83 rfl ?_
      refine J.icmp_gt 91 d_M_ask_85 rfl (fun c => ?_) (fun c => ?_)
      · rw [if_pos c] at h
        refine J.iload 0 d_M_ask_91 rfl ?_
        refine J.istore (lv := [(4, .int (jmin x6 (v2 - x6))), (8, .int (jmin x6 (v2 - x6))), (7, .int x6), (0, jr G 109), (2, .int v2), (3, .int v3), (5, .int v5), (6, .int v6)]) d_M_ask_93 (by decide) rfl ?_
        refine J.bipush (v := (32 : Int32)) d_M_ask_95 kb_32 ?_
        refine J.aload_n 3 d_M_ask_97 rfl rfl ?_
        refine J.getF (n := 146) hG d_M_ask_98 fl_M_123 ck_109_68 rfl ?_
        refine J.iload 6 d_M_ask_101 rfl ?_
        obtain ⟨x8, ex8, g, h⟩ := jld_some h
        refine J.il hG d_M_ask_103 g ex8 ?_
        refine J.imul d_M_ask_104 ?_
        refine J.nop (pc' := 105) rfl ?_
        refine J.aload_n 3 d_M_ask_105 rfl rfl ?_
        refine J.getF (n := 146) hG d_M_ask_106 fl_M_123 ck_109_68 rfl ?_
        refine J.iload 7 d_M_ask_109 rfl ?_
        obtain ⟨x9, ex9, g, h⟩ := jld_some h
        refine J.il hG d_M_ask_111 g ex9 ?_
        refine J.iadd d_M_ask_112 ?_
        refine J.istore_n (lv := [(3, .int (((32 : Int32) * x8) + x9)), (4, .int (jmin x6 (v2 - x6))), (8, .int (jmin x6 (v2 - x6))), (7, .int x6), (0, jr G 109), (2, .int v2), (5, .int v5), (6, .int v6)]) d_M_ask_113 rfl (by decide) rfl ?_
        refine J.iinc 7 (v := (1 : Int32)) (lv := [(6, .int (v6 + (1 : Int32))), (3, .int (((32 : Int32) * x8) + x9)), (4, .int (jmin x6 (v2 - x6))), (8, .int (jmin x6 (v2 - x6))), (7, .int x6), (0, jr G 109), (2, .int v2), (5, .int v5)]) d_M_ask_114 rfl ki_1 (by decide) rfl ?_
        refine J.goto 51 d_M_ask_117 rfl ?_
        exact J.sub (ls' := [(0, jr G 109), (2, .int v2), (3, .int (((32 : Int32) * x8) + x9)), (4, .int (jmin x6 (v2 - x6))), (5, .int v5), (6, .int (v6 + (1 : Int32)))]) [5, 6, 1, 2, 7, 0] rfl (ih (((32 : Int32) * x8) + x9) (jmin x6 (v2 - x6)) (v6 + (1 : Int32)) m7 _ h)
      · rw [if_neg c] at h
        refine J.goto 114 d_M_ask_88 rfl ?_
        refine J.iinc 7 (v := (1 : Int32)) (lv := [(6, .int (v6 + (1 : Int32))), (8, .int (jmin x6 (v2 - x6))), (7, .int x6), (0, jr G 109), (2, .int v2), (3, .int v3), (4, .int v4), (5, .int v5)]) d_M_ask_114 rfl ki_1 (by decide) rfl ?_
        refine J.goto 51 d_M_ask_117 rfl ?_
        exact J.sub (ls' := [(0, jr G 109), (2, .int v2), (3, .int v3), (4, .int v4), (5, .int v5), (6, .int (v6 + (1 : Int32)))]) [3, 4, 5, 6, 7, 0] rfl (ih v3 v4 (v6 + (1 : Int32)) m7 _ h)
theorem jlp_M_ask_36 {G : jG} (hG : jFul G) (v2 : Int32) (k126 : Int32 → jMem → Option (Int32 × jMem))
    (hk126 : ∀ (v3 : Int32) (m : jMem) (r : (Int32 × jMem)), k126 v3 m = some r → J G Y_M_ask 126 [(3, .int v3)] [] m (jri r)) : ∀ (n : Nat) (v3 : Int32) (v4 : Int32) (v5 : Int32) (m : jMem) (r : (Int32 × jMem)), lp_M_ask_36 v2 k126 n v3 v4 v5 m = some r → J G Y_M_ask 36 [(0, jr G 109), (2, .int v2), (3, .int v3), (4, .int v4), (5, .int v5)] [] m (jri r) := by
  intro n
  induction n with
  | zero => intro v3 v4 v5 m r h; unfold lp_M_ask_36 at h; cases h
  | succ n ih =>
    intro v3 v4 v5 m r h
    unfold lp_M_ask_36 at h
    refine J.iload 4 d_M_ask_36 rfl ?_
    refine J.aload_n 0 d_M_ask_38 rfl rfl ?_
    refine J.getI hG d_M_ask_39 fl_M_425 ck_109_67 ?_
    refine J.icmp_ge 126 d_M_ask_42 rfl (fun c => ?_) (fun c => ?_)
    · rw [if_pos c] at h
      exact J.sub (ls' := [(3, .int v3)]) [2] rfl (hk126 v3 m _ h)
    · rw [if_neg c] at h
      refine J.iload 4 d_M_ask_45 rfl ?_
      refine J.iconst (v := (1 : Int32)) d_M_ask_47 ki_1 ?_
      refine J.iadd d_M_ask_48 ?_
      refine J.istore (lv := [(6, .int (v5 + (1 : Int32))), (0, jr G 109), (2, .int v2), (3, .int v3), (4, .int v4), (5, .int v5)]) d_M_ask_49 (by decide) rfl ?_
      refine J.sub (ls' := [(0, jr G 109), (2, .int v2), (3, .int v3), (4, .int v4), (5, .int v5), (6, .int (v5 + (1 : Int32)))]) [1, 2, 3, 4, 5, 0] rfl ?_
      refine jlp_M_ask_51 hG v2 v5 _ ?_ _ v3 v4 (v5 + (1 : Int32)) m _ h
      intro w11 w12 m10 r h
      refine J.iinc 4 (v := (1 : Int32)) (lv := [(5, .int (v5 + (1 : Int32))), (0, jr G 109), (2, .int v2), (3, .int w11), (4, .int w12)]) d_M_ask_120 rfl ki_1 (by decide) rfl ?_
      refine J.goto 36 d_M_ask_123 rfl ?_
      exact J.sub (ls' := [(0, jr G 109), (2, .int v2), (3, .int w11), (4, .int w12), (5, .int (v5 + (1 : Int32)))]) [1, 2, 3, 4, 0] rfl (ih w11 w12 (v5 + (1 : Int32)) m10 _ h)
theorem c_M_ask {G : jG} (hG : jFul G) {v1 : Int32} {m : jMem} {r : (Int32 × jMem)} (h : f_M_ask v1 m = some r) : jCt G Y_M_ask [jr G 109, .int v1] m (jri r) := by
  refine jCt.ov (ls := [(0, jr G 109), (1, .int v1)]) mi_M_ask (jAvR (jAvI jAvN)) (Nat.le_of_ble_eq_true rfl) ?_ ⟨rfl, rfl⟩
  unfold f_M_ask at h
  refine J.aload_n 0 d_M_ask_0 rfl rfl ?_
  refine J.iconst (v := (0 : Int32)) d_M_ask_1 ki_0 ?_
  obtain ⟨m1, hm1, h⟩ := jpu_some h
  refine J.putI hG d_M_ask_2 fl_M_132 fp_10_0 ck_109_0 hm1 ?_
  refine J.aload_n 0 d_M_ask_5 rfl rfl ?_
  refine J.iload_n 1 d_M_ask_6 rfl rfl ?_
  obtain ⟨x2, m3, zm3, h⟩ := jbd_some h
  refine J.cVi Y_M_lay (As := [.int v1]) (rest := []) hG d_M_ask_7 mi_M_lay mv_M_lay lk_M_431 ⟨rfl, rfl, Nat.le_of_ble_eq_true rfl⟩ cq_109 cc_10 (c_M_lay hG zm3) rfl (Nat.le_trans jcN (Nat.le_of_ble_eq_true rfl)) ?_
  refine J.if_eq 21 d_M_ask_10 rfl (fun c => ?_) (fun c => ?_)
  · rw [if_pos c] at h
    refine J.iconst (v := (-1 : Int32)) d_M_ask_21 ki_m1 ?_
    cases h
    exact J.iret d_M_ask_22 rfl (vp_nar_int _) rfl
  · rw [if_neg c] at h
    refine J.aload_n 0 d_M_ask_13 rfl rfl ?_
    refine J.nop (pc' := 14) rfl ?_
    refine J.getI hG d_M_ask_14 fl_M_425 ck_109_67 ?_
    refine J.iconst (v := (2 : Int32)) d_M_ask_17 ki_2 ?_
    refine J.icmp_ge 23 d_M_ask_18 rfl (fun c => ?_) (fun c => ?_)
    · rw [if_pos c] at h
      refine J.aload_n 0 d_M_ask_23 rfl rfl ?_
      obtain ⟨x4, m5, zm5, h⟩ := jbd_some h
      refine J.cVi Y_M_countOrders (As := []) (rest := []) hG d_M_ask_24 mi_M_countOrders mv_M_countOrders lk_M_434 ⟨rfl, rfl, Nat.le_of_ble_eq_true rfl⟩ cq_109 cc_10 (c_M_countOrders hG zm5) rfl (Nat.le_trans jcN (Nat.le_of_ble_eq_true rfl)) ?_
      refine J.istore_n (lv := [(2, .int x4), (0, jr G 109), (1, .int v1)]) d_M_ask_27 rfl (by decide) rfl ?_
      refine J.iconst (v := (-1 : Int32)) d_M_ask_28 ki_m1 ?_
      refine J.istore_n (lv := [(3, .int (-1 : Int32)), (2, .int x4), (0, jr G 109), (1, .int v1)]) d_M_ask_29 rfl (by decide) rfl ?_
      refine J.iconst (v := (-1 : Int32)) d_M_ask_30 ki_m1 ?_
      refine J.istore (lv := [(4, .int (-1 : Int32)), (3, .int (-1 : Int32)), (2, .int x4), (0, jr G 109), (1, .int v1)]) d_M_ask_31 (by decide) rfl ?_
      refine J.iconst (v := (0 : Int32)) d_M_ask_33 ki_0 ?_
      refine J.nop (pc' := 34) rfl ?_
      refine J.istore (lv := [(5, .int (0 : Int32)), (4, .int (-1 : Int32)), (3, .int (-1 : Int32)), (2, .int x4), (0, jr G 109), (1, .int v1)]) d_M_ask_34 (by decide) rfl ?_
      refine J.sub (ls' := [(0, jr G 109), (2, .int x4), (3, .int (-1 : Int32)), (4, .int (-1 : Int32)), (5, .int (0 : Int32))]) [4, 3, 2, 1, 0] rfl ?_
      refine jlp_M_ask_36 hG x4 _ ?_ _ (-1 : Int32) (-1 : Int32) (0 : Int32) m5 _ h
      intro w14 m13 r h
      refine J.iload_n 0 d_M_ask_126 rfl rfl ?_
      cases h
      exact J.iret d_M_ask_127 rfl (vp_nar_int _) rfl
    · rw [if_neg c] at h
      refine J.iconst (v := (-1 : Int32)) d_M_ask_21 ki_m1 ?_
      cases h
      exact J.iret d_M_ask_22 rfl (vp_nar_int _) rfl

def lp_M_hangs_37 (v1 : Int32) (v2 : Int32) (k186 : Int32 → Int32 → Int32 → jMem → Option (Int32 × jMem)) : Nat → Int32 → Int32 → Int32 → Int32 → jMem → Option (Int32 × jMem)
  | 0, _, _, _, _, _ => none
  | n + 1, v3, v4, v5, v6, m =>
    if (m 109 33) ≤ v6 then
      k186 v3 v4 v5 m
    else
      jld 1 m 123 v6 fun x4 =>
      if x4 = (2 : Int32) then
        jld 1 m 125 v6 fun x23 =>
        if x23 = v1 then
          jbd (f_M_isBefore v1 v6 m) fun x42 m43 =>
          if x42 = 0 then
            jld 1 m43 125 v6 fun x44 =>
            if x44 = v1 then
              lp_M_hangs_37 v1 v2 k186 n (v3 ||| (1 : Int32)) (v4 ||| ((1 : Int32) <<< (v6 &&& 31))) v5 (v6 + (1 : Int32)) m43
            else
              jld 1 m43 126 v6 fun x45 =>
              if x45 = v1 then
                lp_M_hangs_37 v1 v2 k186 n (v3 ||| (1 : Int32)) (v4 ||| ((1 : Int32) <<< (v6 &&& 31))) v5 (v6 + (1 : Int32)) m43
              else
                jld 1 m43 125 v6 fun x46 =>
                if x46 = (-1 : Int32) then
                  jld 1 m43 126 v6 fun x47 =>
                  if x47 = (-1 : Int32) then
                    lp_M_hangs_37 v1 v2 k186 n (v3 ||| (1 : Int32)) v4 v5 (v6 + (1 : Int32)) m43
                  else
                    jld 1 m43 126 v6 fun x48 =>
                    if ((v4 >>> (x48 &&& 31)) &&& (1 : Int32)) = (1 : Int32) then
                      lp_M_hangs_37 v1 v2 k186 n (v3 ||| (1 : Int32)) (v4 ||| ((1 : Int32) <<< (v6 &&& 31))) v5 (v6 + (1 : Int32)) m43
                    else
                      lp_M_hangs_37 v1 v2 k186 n (v3 ||| (1 : Int32)) v4 v5 (v6 + (1 : Int32)) m43
                else
                  jld 1 m43 125 v6 fun x49 =>
                  if ((v4 >>> (x49 &&& 31)) &&& (1 : Int32)) = (1 : Int32) then
                    lp_M_hangs_37 v1 v2 k186 n (v3 ||| (1 : Int32)) (v4 ||| ((1 : Int32) <<< (v6 &&& 31))) v5 (v6 + (1 : Int32)) m43
                  else
                    jld 1 m43 126 v6 fun x50 =>
                    if x50 = (-1 : Int32) then
                      lp_M_hangs_37 v1 v2 k186 n (v3 ||| (1 : Int32)) v4 v5 (v6 + (1 : Int32)) m43
                    else
                      jld 1 m43 126 v6 fun x51 =>
                      if ((v4 >>> (x51 &&& 31)) &&& (1 : Int32)) = (1 : Int32) then
                        lp_M_hangs_37 v1 v2 k186 n (v3 ||| (1 : Int32)) (v4 ||| ((1 : Int32) <<< (v6 &&& 31))) v5 (v6 + (1 : Int32)) m43
                      else
                        lp_M_hangs_37 v1 v2 k186 n (v3 ||| (1 : Int32)) v4 v5 (v6 + (1 : Int32)) m43
          else
            jld 1 m43 125 v6 fun x52 =>
            if x52 = v1 then
              lp_M_hangs_37 v1 v2 k186 n (v3 ||| (1 : Int32)) (v4 ||| ((1 : Int32) <<< (v6 &&& 31))) (v5 ||| ((1 : Int32) <<< (v6 &&& 31))) (v6 + (1 : Int32)) m43
            else
              jld 1 m43 126 v6 fun x53 =>
              if x53 = v1 then
                lp_M_hangs_37 v1 v2 k186 n (v3 ||| (1 : Int32)) (v4 ||| ((1 : Int32) <<< (v6 &&& 31))) (v5 ||| ((1 : Int32) <<< (v6 &&& 31))) (v6 + (1 : Int32)) m43
              else
                jld 1 m43 125 v6 fun x54 =>
                if x54 = (-1 : Int32) then
                  jld 1 m43 126 v6 fun x55 =>
                  if x55 = (-1 : Int32) then
                    lp_M_hangs_37 v1 v2 k186 n (v3 ||| (1 : Int32)) v4 (v5 ||| ((1 : Int32) <<< (v6 &&& 31))) (v6 + (1 : Int32)) m43
                  else
                    jld 1 m43 126 v6 fun x56 =>
                    if ((v4 >>> (x56 &&& 31)) &&& (1 : Int32)) = (1 : Int32) then
                      lp_M_hangs_37 v1 v2 k186 n (v3 ||| (1 : Int32)) (v4 ||| ((1 : Int32) <<< (v6 &&& 31))) (v5 ||| ((1 : Int32) <<< (v6 &&& 31))) (v6 + (1 : Int32)) m43
                    else
                      lp_M_hangs_37 v1 v2 k186 n (v3 ||| (1 : Int32)) v4 (v5 ||| ((1 : Int32) <<< (v6 &&& 31))) (v6 + (1 : Int32)) m43
                else
                  jld 1 m43 125 v6 fun x57 =>
                  if ((v4 >>> (x57 &&& 31)) &&& (1 : Int32)) = (1 : Int32) then
                    lp_M_hangs_37 v1 v2 k186 n (v3 ||| (1 : Int32)) (v4 ||| ((1 : Int32) <<< (v6 &&& 31))) (v5 ||| ((1 : Int32) <<< (v6 &&& 31))) (v6 + (1 : Int32)) m43
                  else
                    jld 1 m43 126 v6 fun x58 =>
                    if x58 = (-1 : Int32) then
                      lp_M_hangs_37 v1 v2 k186 n (v3 ||| (1 : Int32)) v4 (v5 ||| ((1 : Int32) <<< (v6 &&& 31))) (v6 + (1 : Int32)) m43
                    else
                      jld 1 m43 126 v6 fun x59 =>
                      if ((v4 >>> (x59 &&& 31)) &&& (1 : Int32)) = (1 : Int32) then
                        lp_M_hangs_37 v1 v2 k186 n (v3 ||| (1 : Int32)) (v4 ||| ((1 : Int32) <<< (v6 &&& 31))) (v5 ||| ((1 : Int32) <<< (v6 &&& 31))) (v6 + (1 : Int32)) m43
                      else
                        lp_M_hangs_37 v1 v2 k186 n (v3 ||| (1 : Int32)) v4 (v5 ||| ((1 : Int32) <<< (v6 &&& 31))) (v6 + (1 : Int32)) m43
        else
          jbd (f_M_isBefore v1 v6 m) fun x24 m25 =>
          if x24 = 0 then
            jld 1 m25 125 v6 fun x26 =>
            if x26 = v1 then
              lp_M_hangs_37 v1 v2 k186 n (v3 ||| (0 : Int32)) (v4 ||| ((1 : Int32) <<< (v6 &&& 31))) v5 (v6 + (1 : Int32)) m25
            else
              jld 1 m25 126 v6 fun x27 =>
              if x27 = v1 then
                lp_M_hangs_37 v1 v2 k186 n (v3 ||| (0 : Int32)) (v4 ||| ((1 : Int32) <<< (v6 &&& 31))) v5 (v6 + (1 : Int32)) m25
              else
                jld 1 m25 125 v6 fun x28 =>
                if x28 = (-1 : Int32) then
                  jld 1 m25 126 v6 fun x29 =>
                  if x29 = (-1 : Int32) then
                    lp_M_hangs_37 v1 v2 k186 n (v3 ||| (0 : Int32)) v4 v5 (v6 + (1 : Int32)) m25
                  else
                    jld 1 m25 126 v6 fun x30 =>
                    if ((v4 >>> (x30 &&& 31)) &&& (1 : Int32)) = (1 : Int32) then
                      lp_M_hangs_37 v1 v2 k186 n (v3 ||| (0 : Int32)) (v4 ||| ((1 : Int32) <<< (v6 &&& 31))) v5 (v6 + (1 : Int32)) m25
                    else
                      lp_M_hangs_37 v1 v2 k186 n (v3 ||| (0 : Int32)) v4 v5 (v6 + (1 : Int32)) m25
                else
                  jld 1 m25 125 v6 fun x31 =>
                  if ((v4 >>> (x31 &&& 31)) &&& (1 : Int32)) = (1 : Int32) then
                    lp_M_hangs_37 v1 v2 k186 n (v3 ||| (0 : Int32)) (v4 ||| ((1 : Int32) <<< (v6 &&& 31))) v5 (v6 + (1 : Int32)) m25
                  else
                    jld 1 m25 126 v6 fun x32 =>
                    if x32 = (-1 : Int32) then
                      lp_M_hangs_37 v1 v2 k186 n (v3 ||| (0 : Int32)) v4 v5 (v6 + (1 : Int32)) m25
                    else
                      jld 1 m25 126 v6 fun x33 =>
                      if ((v4 >>> (x33 &&& 31)) &&& (1 : Int32)) = (1 : Int32) then
                        lp_M_hangs_37 v1 v2 k186 n (v3 ||| (0 : Int32)) (v4 ||| ((1 : Int32) <<< (v6 &&& 31))) v5 (v6 + (1 : Int32)) m25
                      else
                        lp_M_hangs_37 v1 v2 k186 n (v3 ||| (0 : Int32)) v4 v5 (v6 + (1 : Int32)) m25
          else
            jld 1 m25 125 v6 fun x34 =>
            if x34 = v1 then
              lp_M_hangs_37 v1 v2 k186 n (v3 ||| (0 : Int32)) (v4 ||| ((1 : Int32) <<< (v6 &&& 31))) (v5 ||| ((1 : Int32) <<< (v6 &&& 31))) (v6 + (1 : Int32)) m25
            else
              jld 1 m25 126 v6 fun x35 =>
              if x35 = v1 then
                lp_M_hangs_37 v1 v2 k186 n (v3 ||| (0 : Int32)) (v4 ||| ((1 : Int32) <<< (v6 &&& 31))) (v5 ||| ((1 : Int32) <<< (v6 &&& 31))) (v6 + (1 : Int32)) m25
              else
                jld 1 m25 125 v6 fun x36 =>
                if x36 = (-1 : Int32) then
                  jld 1 m25 126 v6 fun x37 =>
                  if x37 = (-1 : Int32) then
                    lp_M_hangs_37 v1 v2 k186 n (v3 ||| (0 : Int32)) v4 (v5 ||| ((1 : Int32) <<< (v6 &&& 31))) (v6 + (1 : Int32)) m25
                  else
                    jld 1 m25 126 v6 fun x38 =>
                    if ((v4 >>> (x38 &&& 31)) &&& (1 : Int32)) = (1 : Int32) then
                      lp_M_hangs_37 v1 v2 k186 n (v3 ||| (0 : Int32)) (v4 ||| ((1 : Int32) <<< (v6 &&& 31))) (v5 ||| ((1 : Int32) <<< (v6 &&& 31))) (v6 + (1 : Int32)) m25
                    else
                      lp_M_hangs_37 v1 v2 k186 n (v3 ||| (0 : Int32)) v4 (v5 ||| ((1 : Int32) <<< (v6 &&& 31))) (v6 + (1 : Int32)) m25
                else
                  jld 1 m25 125 v6 fun x39 =>
                  if ((v4 >>> (x39 &&& 31)) &&& (1 : Int32)) = (1 : Int32) then
                    lp_M_hangs_37 v1 v2 k186 n (v3 ||| (0 : Int32)) (v4 ||| ((1 : Int32) <<< (v6 &&& 31))) (v5 ||| ((1 : Int32) <<< (v6 &&& 31))) (v6 + (1 : Int32)) m25
                  else
                    jld 1 m25 126 v6 fun x40 =>
                    if x40 = (-1 : Int32) then
                      lp_M_hangs_37 v1 v2 k186 n (v3 ||| (0 : Int32)) v4 (v5 ||| ((1 : Int32) <<< (v6 &&& 31))) (v6 + (1 : Int32)) m25
                    else
                      jld 1 m25 126 v6 fun x41 =>
                      if ((v4 >>> (x41 &&& 31)) &&& (1 : Int32)) = (1 : Int32) then
                        lp_M_hangs_37 v1 v2 k186 n (v3 ||| (0 : Int32)) (v4 ||| ((1 : Int32) <<< (v6 &&& 31))) (v5 ||| ((1 : Int32) <<< (v6 &&& 31))) (v6 + (1 : Int32)) m25
                      else
                        lp_M_hangs_37 v1 v2 k186 n (v3 ||| (0 : Int32)) v4 (v5 ||| ((1 : Int32) <<< (v6 &&& 31))) (v6 + (1 : Int32)) m25
      else
        jbd (f_M_isBefore v1 v6 m) fun x5 m6 =>
        if x5 = 0 then
          jld 1 m6 125 v6 fun x7 =>
          if x7 = v1 then
            lp_M_hangs_37 v1 v2 k186 n (v3 ||| (0 : Int32)) (v4 ||| ((1 : Int32) <<< (v6 &&& 31))) v5 (v6 + (1 : Int32)) m6
          else
            jld 1 m6 126 v6 fun x8 =>
            if x8 = v1 then
              lp_M_hangs_37 v1 v2 k186 n (v3 ||| (0 : Int32)) (v4 ||| ((1 : Int32) <<< (v6 &&& 31))) v5 (v6 + (1 : Int32)) m6
            else
              jld 1 m6 125 v6 fun x9 =>
              if x9 = (-1 : Int32) then
                jld 1 m6 126 v6 fun x10 =>
                if x10 = (-1 : Int32) then
                  lp_M_hangs_37 v1 v2 k186 n (v3 ||| (0 : Int32)) v4 v5 (v6 + (1 : Int32)) m6
                else
                  jld 1 m6 126 v6 fun x11 =>
                  if ((v4 >>> (x11 &&& 31)) &&& (1 : Int32)) = (1 : Int32) then
                    lp_M_hangs_37 v1 v2 k186 n (v3 ||| (0 : Int32)) (v4 ||| ((1 : Int32) <<< (v6 &&& 31))) v5 (v6 + (1 : Int32)) m6
                  else
                    lp_M_hangs_37 v1 v2 k186 n (v3 ||| (0 : Int32)) v4 v5 (v6 + (1 : Int32)) m6
              else
                jld 1 m6 125 v6 fun x12 =>
                if ((v4 >>> (x12 &&& 31)) &&& (1 : Int32)) = (1 : Int32) then
                  lp_M_hangs_37 v1 v2 k186 n (v3 ||| (0 : Int32)) (v4 ||| ((1 : Int32) <<< (v6 &&& 31))) v5 (v6 + (1 : Int32)) m6
                else
                  jld 1 m6 126 v6 fun x13 =>
                  if x13 = (-1 : Int32) then
                    lp_M_hangs_37 v1 v2 k186 n (v3 ||| (0 : Int32)) v4 v5 (v6 + (1 : Int32)) m6
                  else
                    jld 1 m6 126 v6 fun x14 =>
                    if ((v4 >>> (x14 &&& 31)) &&& (1 : Int32)) = (1 : Int32) then
                      lp_M_hangs_37 v1 v2 k186 n (v3 ||| (0 : Int32)) (v4 ||| ((1 : Int32) <<< (v6 &&& 31))) v5 (v6 + (1 : Int32)) m6
                    else
                      lp_M_hangs_37 v1 v2 k186 n (v3 ||| (0 : Int32)) v4 v5 (v6 + (1 : Int32)) m6
        else
          jld 1 m6 125 v6 fun x15 =>
          if x15 = v1 then
            lp_M_hangs_37 v1 v2 k186 n (v3 ||| (0 : Int32)) (v4 ||| ((1 : Int32) <<< (v6 &&& 31))) (v5 ||| ((1 : Int32) <<< (v6 &&& 31))) (v6 + (1 : Int32)) m6
          else
            jld 1 m6 126 v6 fun x16 =>
            if x16 = v1 then
              lp_M_hangs_37 v1 v2 k186 n (v3 ||| (0 : Int32)) (v4 ||| ((1 : Int32) <<< (v6 &&& 31))) (v5 ||| ((1 : Int32) <<< (v6 &&& 31))) (v6 + (1 : Int32)) m6
            else
              jld 1 m6 125 v6 fun x17 =>
              if x17 = (-1 : Int32) then
                jld 1 m6 126 v6 fun x18 =>
                if x18 = (-1 : Int32) then
                  lp_M_hangs_37 v1 v2 k186 n (v3 ||| (0 : Int32)) v4 (v5 ||| ((1 : Int32) <<< (v6 &&& 31))) (v6 + (1 : Int32)) m6
                else
                  jld 1 m6 126 v6 fun x19 =>
                  if ((v4 >>> (x19 &&& 31)) &&& (1 : Int32)) = (1 : Int32) then
                    lp_M_hangs_37 v1 v2 k186 n (v3 ||| (0 : Int32)) (v4 ||| ((1 : Int32) <<< (v6 &&& 31))) (v5 ||| ((1 : Int32) <<< (v6 &&& 31))) (v6 + (1 : Int32)) m6
                  else
                    lp_M_hangs_37 v1 v2 k186 n (v3 ||| (0 : Int32)) v4 (v5 ||| ((1 : Int32) <<< (v6 &&& 31))) (v6 + (1 : Int32)) m6
              else
                jld 1 m6 125 v6 fun x20 =>
                if ((v4 >>> (x20 &&& 31)) &&& (1 : Int32)) = (1 : Int32) then
                  lp_M_hangs_37 v1 v2 k186 n (v3 ||| (0 : Int32)) (v4 ||| ((1 : Int32) <<< (v6 &&& 31))) (v5 ||| ((1 : Int32) <<< (v6 &&& 31))) (v6 + (1 : Int32)) m6
                else
                  jld 1 m6 126 v6 fun x21 =>
                  if x21 = (-1 : Int32) then
                    lp_M_hangs_37 v1 v2 k186 n (v3 ||| (0 : Int32)) v4 (v5 ||| ((1 : Int32) <<< (v6 &&& 31))) (v6 + (1 : Int32)) m6
                  else
                    jld 1 m6 126 v6 fun x22 =>
                    if ((v4 >>> (x22 &&& 31)) &&& (1 : Int32)) = (1 : Int32) then
                      lp_M_hangs_37 v1 v2 k186 n (v3 ||| (0 : Int32)) (v4 ||| ((1 : Int32) <<< (v6 &&& 31))) (v5 ||| ((1 : Int32) <<< (v6 &&& 31))) (v6 + (1 : Int32)) m6
                    else
                      lp_M_hangs_37 v1 v2 k186 n (v3 ||| (0 : Int32)) v4 (v5 ||| ((1 : Int32) <<< (v6 &&& 31))) (v6 + (1 : Int32)) m6
def f_M_hangs (v1 : Int32) (v2 : Int32) (m : jMem) : Option (Int32 × jMem) :=
  jpu m 109 0 (0 : Int32) fun m1 =>
  jbd (f_M_isLetter v1 m1) fun x2 m3 =>
  if x2 = 0 then
    some ((-1 : Int32), m3)
  else
    if v2 < 0 then
      some ((-1 : Int32), m3)
    else
      if v2 ≤ (1 : Int32) then
        lp_M_hangs_37 v1 v2 (fun w61 w62 w63 m60 =>
          if w61 = 0 then
            some ((-1 : Int32), m60)
          else
            if v2 = 0 then
              some (w62, m60)
            else
              some (w63, m60)) 5000 (0 : Int32) (0 : Int32) (0 : Int32) (v1 + (1 : Int32)) m3
      else
        some ((-1 : Int32), m3)
theorem jlp_M_hangs_37 {G : jG} (hG : jFul G) (v1 : Int32) (v2 : Int32) (k186 : Int32 → Int32 → Int32 → jMem → Option (Int32 × jMem))
    (hk186 : ∀ (v3 : Int32) (v4 : Int32) (v5 : Int32) (m : jMem) (r : (Int32 × jMem)), k186 v3 v4 v5 m = some r → J G Y_M_hangs 186 [(2, .int v2), (3, .int v3), (4, .int v4), (5, .int v5)] [] m (jri r)) : ∀ (n : Nat) (v3 : Int32) (v4 : Int32) (v5 : Int32) (v6 : Int32) (m : jMem) (r : (Int32 × jMem)), lp_M_hangs_37 v1 v2 k186 n v3 v4 v5 v6 m = some r → J G Y_M_hangs 37 [(0, jr G 109), (1, .int v1), (2, .int v2), (3, .int v3), (4, .int v4), (5, .int v5), (6, .int v6)] [] m (jri r) := by
  intro n
  induction n with
  | zero => intro v3 v4 v5 v6 m r h; unfold lp_M_hangs_37 at h; cases h
  | succ n ih =>
    intro v3 v4 v5 v6 m r h
    unfold lp_M_hangs_37 at h
    refine J.iload 6 d_M_hangs_37 rfl ?_
    refine J.aload_n 0 d_M_hangs_39 rfl rfl ?_
    refine J.getI hG d_M_hangs_40 fl_M_277 ck_109_33 ?_
    refine J.icmp_ge 186 d_M_hangs_43 rfl (fun c => ?_) (fun c => ?_)
    · rw [if_pos c] at h
      exact J.sub (ls' := [(2, .int v2), (3, .int v3), (4, .int v4), (5, .int v5)]) [2, 3, 4, 5] rfl (hk186 v3 v4 v5 m _ h)
    · rw [if_neg c] at h
      refine J.iload_n 3 d_M_hangs_46 rfl rfl ?_
      refine J.aload_n 0 d_M_hangs_47 rfl rfl ?_
      refine J.getF (n := 123) hG d_M_hangs_48 fl_M_54 ck_109_36 rfl ?_
      refine J.iload 6 d_M_hangs_51 rfl ?_
      refine J.nop (pc' := 53) rfl ?_
      obtain ⟨x4, ex4, g, h⟩ := jld_some h
      refine J.il hG d_M_hangs_53 g ex4 ?_
      refine J.iconst (v := (2 : Int32)) d_M_hangs_54 ki_2 ?_
      refine J.icmp_ne 73 d_M_hangs_55 rfl (fun c => ?_) (fun c => ?_)
      · rw [if_neg c] at h
        refine J.iconst (v := (0 : Int32)) d_M_hangs_73 ki_0 ?_
        refine J.ior d_M_hangs_74 ?_
        refine J.istore_n (lv := [(3, .int (v3 ||| (0 : Int32))), (0, jr G 109), (1, .int v1), (2, .int v2), (4, .int v4), (5, .int v5), (6, .int v6)]) d_M_hangs_75 rfl (by decide) rfl ?_
        refine J.aload_n 1 d_M_hangs_76 rfl rfl ?_
        refine J.iload_n 2 d_M_hangs_77 rfl rfl ?_
        refine J.iload 6 d_M_hangs_78 rfl ?_
        obtain ⟨x5, m6, zm6, h⟩ := jbd_some h
        refine J.cVi Y_M_isBefore (As := [.int v1, .int v6]) (rest := []) hG d_M_hangs_80 mi_M_isBefore mv_M_isBefore lk_M_350 ⟨rfl, rfl, Nat.le_of_ble_eq_true rfl⟩ cq_109 cc_10 (c_M_isBefore hG zm6) rfl (Nat.le_trans jcN (Nat.le_of_ble_eq_true rfl)) ?_
        refine J.if_eq 95 d_M_hangs_83 rfl (fun c => ?_) (fun c => ?_)
        · rw [if_pos c] at h
          refine J.aload_n 1 d_M_hangs_95 rfl rfl ?_
          refine J.getF (n := 125) hG d_M_hangs_96 fl_M_60 ck_109_38 rfl ?_
          refine J.iload 6 d_M_hangs_99 rfl ?_
          obtain ⟨x7, ex7, g, h⟩ := jld_some h
          refine J.il hG d_M_hangs_101 g ex7 ?_
          refine J.iload_n 2 d_M_hangs_102 rfl rfl ?_
          refine J.icmp_eq 171 d_M_hangs_103 rfl (fun c => ?_) (fun c => ?_)
          · rw [if_pos c] at h
            refine J.iload 4 d_M_hangs_171 rfl ?_
            refine J.iconst (v := (1 : Int32)) d_M_hangs_173 ki_1 ?_
            refine J.iload 6 d_M_hangs_174 rfl ?_
            refine J.ishl d_M_hangs_176 ?_
            refine J.ior d_M_hangs_177 ?_
            refine J.istore (lv := [(4, .int (v4 ||| ((1 : Int32) <<< (v6 &&& 31)))), (3, .int (v3 ||| (0 : Int32))), (0, jr G 109), (1, .int v1), (2, .int v2), (5, .int v5), (6, .int v6)]) d_M_hangs_178 (by decide) rfl ?_
            refine J.iinc 6 (v := (1 : Int32)) (lv := [(6, .int (v6 + (1 : Int32))), (4, .int (v4 ||| ((1 : Int32) <<< (v6 &&& 31)))), (3, .int (v3 ||| (0 : Int32))), (0, jr G 109), (1, .int v1), (2, .int v2), (5, .int v5)]) d_M_hangs_180 rfl ki_1 (by decide) rfl ?_
            refine J.goto 37 d_M_hangs_183 rfl ?_
            exact J.sub (ls' := [(0, jr G 109), (1, .int v1), (2, .int v2), (3, .int (v3 ||| (0 : Int32))), (4, .int (v4 ||| ((1 : Int32) <<< (v6 &&& 31)))), (5, .int v5), (6, .int (v6 + (1 : Int32)))]) [3, 4, 5, 2, 1, 6, 0] rfl (ih (v3 ||| (0 : Int32)) (v4 ||| ((1 : Int32) <<< (v6 &&& 31))) v5 (v6 + (1 : Int32)) m6 _ h)
          · rw [if_neg c] at h
            refine J.aload_n 1 d_M_hangs_106 rfl rfl ?_
            refine J.getF (n := 126) hG d_M_hangs_107 fl_M_63 ck_109_39 rfl ?_
            refine J.nop (pc' := 110) rfl ?_
            refine J.iload 6 d_M_hangs_110 rfl ?_
            obtain ⟨x8, ex8, g, h⟩ := jld_some h
            refine J.il hG d_M_hangs_112 g ex8 ?_
            refine J.iload_n 2 d_M_hangs_113 rfl rfl ?_
            refine J.icmp_eq 171 d_M_hangs_114 rfl (fun c => ?_) (fun c => ?_)
            · rw [if_pos c] at h
              refine J.iload 4 d_M_hangs_171 rfl ?_
              refine J.iconst (v := (1 : Int32)) d_M_hangs_173 ki_1 ?_
              refine J.iload 6 d_M_hangs_174 rfl ?_
              refine J.ishl d_M_hangs_176 ?_
              refine J.ior d_M_hangs_177 ?_
              refine J.istore (lv := [(4, .int (v4 ||| ((1 : Int32) <<< (v6 &&& 31)))), (3, .int (v3 ||| (0 : Int32))), (0, jr G 109), (1, .int v1), (2, .int v2), (5, .int v5), (6, .int v6)]) d_M_hangs_178 (by decide) rfl ?_
              refine J.iinc 6 (v := (1 : Int32)) (lv := [(6, .int (v6 + (1 : Int32))), (4, .int (v4 ||| ((1 : Int32) <<< (v6 &&& 31)))), (3, .int (v3 ||| (0 : Int32))), (0, jr G 109), (1, .int v1), (2, .int v2), (5, .int v5)]) d_M_hangs_180 rfl ki_1 (by decide) rfl ?_
              refine J.goto 37 d_M_hangs_183 rfl ?_
              exact J.sub (ls' := [(0, jr G 109), (1, .int v1), (2, .int v2), (3, .int (v3 ||| (0 : Int32))), (4, .int (v4 ||| ((1 : Int32) <<< (v6 &&& 31)))), (5, .int v5), (6, .int (v6 + (1 : Int32)))]) [3, 4, 5, 2, 1, 6, 0] rfl (ih (v3 ||| (0 : Int32)) (v4 ||| ((1 : Int32) <<< (v6 &&& 31))) v5 (v6 + (1 : Int32)) m6 _ h)
            · rw [if_neg c] at h
              refine J.aload_n 1 d_M_hangs_117 rfl rfl ?_
              refine J.getF (n := 125) hG d_M_hangs_118 fl_M_60 ck_109_38 rfl ?_
              refine J.iload 6 d_M_hangs_121 rfl ?_
              obtain ⟨x9, ex9, g, h⟩ := jld_some h
              refine J.il hG d_M_hangs_123 g ex9 ?_
              refine J.nop (pc' := 124) rfl ?_
              refine J.iconst (v := (-1 : Int32)) d_M_hangs_124 ki_m1 ?_
              refine J.icmp_eq 144 d_M_hangs_125 rfl (fun c => ?_) (fun c => ?_)
              · rw [if_pos c] at h
                refine J.aload_n 1 d_M_hangs_144 rfl rfl ?_
                refine J.getF (n := 126) hG d_M_hangs_145 fl_M_63 ck_109_39 rfl ?_
                refine J.iload 6 d_M_hangs_148 rfl ?_
                obtain ⟨x10, ex10, g, h⟩ := jld_some h
                refine J.il hG d_M_hangs_150 g ex10 ?_
                refine J.iconst (v := (-1 : Int32)) d_M_hangs_151 ki_m1 ?_
                refine J.icmp_eq 180 d_M_hangs_152 rfl (fun c => ?_) (fun c => ?_)
                · rw [if_pos c] at h
                  refine J.iinc 6 (v := (1 : Int32)) (lv := [(6, .int (v6 + (1 : Int32))), (3, .int (v3 ||| (0 : Int32))), (0, jr G 109), (1, .int v1), (2, .int v2), (4, .int v4), (5, .int v5)]) d_M_hangs_180 rfl ki_1 (by decide) rfl ?_
                  refine J.goto 37 d_M_hangs_183 rfl ?_
                  exact J.sub (ls' := [(0, jr G 109), (1, .int v1), (2, .int v2), (3, .int (v3 ||| (0 : Int32))), (4, .int v4), (5, .int v5), (6, .int (v6 + (1 : Int32)))]) [2, 3, 4, 1, 5, 6, 0] rfl (ih (v3 ||| (0 : Int32)) v4 v5 (v6 + (1 : Int32)) m6 _ h)
                · rw [if_neg c] at h
                  refine J.iload 4 d_M_hangs_155 rfl ?_
                  refine J.aload_n 1 d_M_hangs_157 rfl rfl ?_
                  refine J.nop (pc' := 158) rfl ?_
                  refine J.getF (n := 126) hG d_M_hangs_158 fl_M_63 ck_109_39 rfl ?_
                  refine J.iload 6 d_M_hangs_161 rfl ?_
                  obtain ⟨x11, ex11, g, h⟩ := jld_some h
                  refine J.il hG d_M_hangs_163 g ex11 ?_
                  refine J.ishr d_M_hangs_164 ?_
                  refine J.iconst (v := (1 : Int32)) d_M_hangs_165 ki_1 ?_
                  refine J.iand d_M_hangs_166 ?_
                  refine J.iconst (v := (1 : Int32)) d_M_hangs_167 ki_1 ?_
                  refine J.icmp_ne 180 d_M_hangs_168 rfl (fun c => ?_) (fun c => ?_)
                  · rw [if_neg c] at h
                    refine J.iinc 6 (v := (1 : Int32)) (lv := [(6, .int (v6 + (1 : Int32))), (3, .int (v3 ||| (0 : Int32))), (0, jr G 109), (1, .int v1), (2, .int v2), (4, .int v4), (5, .int v5)]) d_M_hangs_180 rfl ki_1 (by decide) rfl ?_
                    refine J.goto 37 d_M_hangs_183 rfl ?_
                    exact J.sub (ls' := [(0, jr G 109), (1, .int v1), (2, .int v2), (3, .int (v3 ||| (0 : Int32))), (4, .int v4), (5, .int v5), (6, .int (v6 + (1 : Int32)))]) [2, 3, 4, 1, 5, 6, 0] rfl (ih (v3 ||| (0 : Int32)) v4 v5 (v6 + (1 : Int32)) m6 _ h)
                  · rw [if_pos c] at h
                    refine J.nop (pc' := 171) rfl ?_
                    refine J.iload 4 d_M_hangs_171 rfl ?_
                    refine J.iconst (v := (1 : Int32)) d_M_hangs_173 ki_1 ?_
                    refine J.iload 6 d_M_hangs_174 rfl ?_
                    refine J.ishl d_M_hangs_176 ?_
                    refine J.ior d_M_hangs_177 ?_
                    refine J.istore (lv := [(4, .int (v4 ||| ((1 : Int32) <<< (v6 &&& 31)))), (3, .int (v3 ||| (0 : Int32))), (0, jr G 109), (1, .int v1), (2, .int v2), (5, .int v5), (6, .int v6)]) d_M_hangs_178 (by decide) rfl ?_
                    refine J.iinc 6 (v := (1 : Int32)) (lv := [(6, .int (v6 + (1 : Int32))), (4, .int (v4 ||| ((1 : Int32) <<< (v6 &&& 31)))), (3, .int (v3 ||| (0 : Int32))), (0, jr G 109), (1, .int v1), (2, .int v2), (5, .int v5)]) d_M_hangs_180 rfl ki_1 (by decide) rfl ?_
                    refine J.goto 37 d_M_hangs_183 rfl ?_
                    exact J.sub (ls' := [(0, jr G 109), (1, .int v1), (2, .int v2), (3, .int (v3 ||| (0 : Int32))), (4, .int (v4 ||| ((1 : Int32) <<< (v6 &&& 31)))), (5, .int v5), (6, .int (v6 + (1 : Int32)))]) [3, 4, 5, 2, 1, 6, 0] rfl (ih (v3 ||| (0 : Int32)) (v4 ||| ((1 : Int32) <<< (v6 &&& 31))) v5 (v6 + (1 : Int32)) m6 _ h)
              · rw [if_neg c] at h
                refine J.iload 4 d_M_hangs_128 rfl ?_
                refine J.aload_n 1 d_M_hangs_130 rfl rfl ?_
                refine J.getF (n := 125) hG d_M_hangs_131 fl_M_60 ck_109_38 rfl ?_
                refine J.iload 6 d_M_hangs_134 rfl ?_
                obtain ⟨x12, ex12, g, h⟩ := jld_some h
                refine J.il hG d_M_hangs_136 g ex12 ?_
                refine J.ishr d_M_hangs_137 ?_
                refine J.nop (pc' := 138) rfl ?_
                refine J.iconst (v := (1 : Int32)) d_M_hangs_138 ki_1 ?_
                refine J.iand d_M_hangs_139 ?_
                refine J.iconst (v := (1 : Int32)) d_M_hangs_140 ki_1 ?_
                refine J.icmp_eq 171 d_M_hangs_141 rfl (fun c => ?_) (fun c => ?_)
                · rw [if_pos c] at h
                  refine J.iload 4 d_M_hangs_171 rfl ?_
                  refine J.iconst (v := (1 : Int32)) d_M_hangs_173 ki_1 ?_
                  refine J.iload 6 d_M_hangs_174 rfl ?_
                  refine J.ishl d_M_hangs_176 ?_
                  refine J.ior d_M_hangs_177 ?_
                  refine J.istore (lv := [(4, .int (v4 ||| ((1 : Int32) <<< (v6 &&& 31)))), (3, .int (v3 ||| (0 : Int32))), (0, jr G 109), (1, .int v1), (2, .int v2), (5, .int v5), (6, .int v6)]) d_M_hangs_178 (by decide) rfl ?_
                  refine J.iinc 6 (v := (1 : Int32)) (lv := [(6, .int (v6 + (1 : Int32))), (4, .int (v4 ||| ((1 : Int32) <<< (v6 &&& 31)))), (3, .int (v3 ||| (0 : Int32))), (0, jr G 109), (1, .int v1), (2, .int v2), (5, .int v5)]) d_M_hangs_180 rfl ki_1 (by decide) rfl ?_
                  refine J.goto 37 d_M_hangs_183 rfl ?_
                  exact J.sub (ls' := [(0, jr G 109), (1, .int v1), (2, .int v2), (3, .int (v3 ||| (0 : Int32))), (4, .int (v4 ||| ((1 : Int32) <<< (v6 &&& 31)))), (5, .int v5), (6, .int (v6 + (1 : Int32)))]) [3, 4, 5, 2, 1, 6, 0] rfl (ih (v3 ||| (0 : Int32)) (v4 ||| ((1 : Int32) <<< (v6 &&& 31))) v5 (v6 + (1 : Int32)) m6 _ h)
                · rw [if_neg c] at h
                  refine J.aload_n 1 d_M_hangs_144 rfl rfl ?_
                  refine J.getF (n := 126) hG d_M_hangs_145 fl_M_63 ck_109_39 rfl ?_
                  refine J.iload 6 d_M_hangs_148 rfl ?_
                  obtain ⟨x13, ex13, g, h⟩ := jld_some h
                  refine J.il hG d_M_hangs_150 g ex13 ?_
                  refine J.nop (pc' := 151) rfl ?_
                  refine J.iconst (v := (-1 : Int32)) d_M_hangs_151 ki_m1 ?_
                  refine J.icmp_eq 180 d_M_hangs_152 rfl (fun c => ?_) (fun c => ?_)
                  · rw [if_pos c] at h
                    refine J.iinc 6 (v := (1 : Int32)) (lv := [(6, .int (v6 + (1 : Int32))), (3, .int (v3 ||| (0 : Int32))), (0, jr G 109), (1, .int v1), (2, .int v2), (4, .int v4), (5, .int v5)]) d_M_hangs_180 rfl ki_1 (by decide) rfl ?_
                    refine J.goto 37 d_M_hangs_183 rfl ?_
                    exact J.sub (ls' := [(0, jr G 109), (1, .int v1), (2, .int v2), (3, .int (v3 ||| (0 : Int32))), (4, .int v4), (5, .int v5), (6, .int (v6 + (1 : Int32)))]) [2, 3, 4, 1, 5, 6, 0] rfl (ih (v3 ||| (0 : Int32)) v4 v5 (v6 + (1 : Int32)) m6 _ h)
                  · rw [if_neg c] at h
                    refine J.iload 4 d_M_hangs_155 rfl ?_
                    refine J.aload_n 1 d_M_hangs_157 rfl rfl ?_
                    refine J.getF (n := 126) hG d_M_hangs_158 fl_M_63 ck_109_39 rfl ?_
                    refine J.iload 6 d_M_hangs_161 rfl ?_
                    obtain ⟨x14, ex14, g, h⟩ := jld_some h
                    refine J.il hG d_M_hangs_163 g ex14 ?_
                    refine J.ishr d_M_hangs_164 ?_
                    refine J.nop (pc' := 165) rfl ?_
                    refine J.iconst (v := (1 : Int32)) d_M_hangs_165 ki_1 ?_
                    refine J.iand d_M_hangs_166 ?_
                    refine J.iconst (v := (1 : Int32)) d_M_hangs_167 ki_1 ?_
                    refine J.icmp_ne 180 d_M_hangs_168 rfl (fun c => ?_) (fun c => ?_)
                    · rw [if_neg c] at h
                      refine J.iinc 6 (v := (1 : Int32)) (lv := [(6, .int (v6 + (1 : Int32))), (3, .int (v3 ||| (0 : Int32))), (0, jr G 109), (1, .int v1), (2, .int v2), (4, .int v4), (5, .int v5)]) d_M_hangs_180 rfl ki_1 (by decide) rfl ?_
                      refine J.goto 37 d_M_hangs_183 rfl ?_
                      exact J.sub (ls' := [(0, jr G 109), (1, .int v1), (2, .int v2), (3, .int (v3 ||| (0 : Int32))), (4, .int v4), (5, .int v5), (6, .int (v6 + (1 : Int32)))]) [2, 3, 4, 1, 5, 6, 0] rfl (ih (v3 ||| (0 : Int32)) v4 v5 (v6 + (1 : Int32)) m6 _ h)
                    · rw [if_pos c] at h
                      refine J.iload 4 d_M_hangs_171 rfl ?_
                      refine J.iconst (v := (1 : Int32)) d_M_hangs_173 ki_1 ?_
                      refine J.iload 6 d_M_hangs_174 rfl ?_
                      refine J.ishl d_M_hangs_176 ?_
                      refine J.nop (pc' := 177) rfl ?_
                      refine J.ior d_M_hangs_177 ?_
                      refine J.istore (lv := [(4, .int (v4 ||| ((1 : Int32) <<< (v6 &&& 31)))), (3, .int (v3 ||| (0 : Int32))), (0, jr G 109), (1, .int v1), (2, .int v2), (5, .int v5), (6, .int v6)]) d_M_hangs_178 (by decide) rfl ?_
                      refine J.iinc 6 (v := (1 : Int32)) (lv := [(6, .int (v6 + (1 : Int32))), (4, .int (v4 ||| ((1 : Int32) <<< (v6 &&& 31)))), (3, .int (v3 ||| (0 : Int32))), (0, jr G 109), (1, .int v1), (2, .int v2), (5, .int v5)]) d_M_hangs_180 rfl ki_1 (by decide) rfl ?_
                      refine J.goto 37 d_M_hangs_183 rfl ?_
                      exact J.sub (ls' := [(0, jr G 109), (1, .int v1), (2, .int v2), (3, .int (v3 ||| (0 : Int32))), (4, .int (v4 ||| ((1 : Int32) <<< (v6 &&& 31)))), (5, .int v5), (6, .int (v6 + (1 : Int32)))]) [3, 4, 5, 2, 1, 6, 0] rfl (ih (v3 ||| (0 : Int32)) (v4 ||| ((1 : Int32) <<< (v6 &&& 31))) v5 (v6 + (1 : Int32)) m6 _ h)
        · rw [if_neg c] at h
          refine J.nop (pc' := 86) rfl ?_
          refine J.iload 5 d_M_hangs_86 rfl ?_
          refine J.iconst (v := (1 : Int32)) d_M_hangs_88 ki_1 ?_
          refine J.iload 6 d_M_hangs_89 rfl ?_
          refine J.ishl d_M_hangs_91 ?_
          refine J.ior d_M_hangs_92 ?_
          refine J.istore (lv := [(5, .int (v5 ||| ((1 : Int32) <<< (v6 &&& 31)))), (3, .int (v3 ||| (0 : Int32))), (0, jr G 109), (1, .int v1), (2, .int v2), (4, .int v4), (6, .int v6)]) d_M_hangs_93 (by decide) rfl ?_
          refine J.aload_n 2 d_M_hangs_95 rfl rfl ?_
          refine J.getF (n := 125) hG d_M_hangs_96 fl_M_60 ck_109_38 rfl ?_
          refine J.nop (pc' := 99) rfl ?_
          refine J.iload 6 d_M_hangs_99 rfl ?_
          obtain ⟨x15, ex15, g, h⟩ := jld_some h
          refine J.il hG d_M_hangs_101 g ex15 ?_
          refine J.iload_n 3 d_M_hangs_102 rfl rfl ?_
          refine J.icmp_eq 171 d_M_hangs_103 rfl (fun c => ?_) (fun c => ?_)
          · rw [if_pos c] at h
            refine J.iload 5 d_M_hangs_171 rfl ?_
            refine J.iconst (v := (1 : Int32)) d_M_hangs_173 ki_1 ?_
            refine J.iload 6 d_M_hangs_174 rfl ?_
            refine J.ishl d_M_hangs_176 ?_
            refine J.ior d_M_hangs_177 ?_
            refine J.istore (lv := [(4, .int (v4 ||| ((1 : Int32) <<< (v6 &&& 31)))), (5, .int (v5 ||| ((1 : Int32) <<< (v6 &&& 31)))), (3, .int (v3 ||| (0 : Int32))), (0, jr G 109), (1, .int v1), (2, .int v2), (6, .int v6)]) d_M_hangs_178 (by decide) rfl ?_
            refine J.iinc 6 (v := (1 : Int32)) (lv := [(6, .int (v6 + (1 : Int32))), (4, .int (v4 ||| ((1 : Int32) <<< (v6 &&& 31)))), (5, .int (v5 ||| ((1 : Int32) <<< (v6 &&& 31)))), (3, .int (v3 ||| (0 : Int32))), (0, jr G 109), (1, .int v1), (2, .int v2)]) d_M_hangs_180 rfl ki_1 (by decide) rfl ?_
            refine J.goto 37 d_M_hangs_183 rfl ?_
            exact J.sub (ls' := [(0, jr G 109), (1, .int v1), (2, .int v2), (3, .int (v3 ||| (0 : Int32))), (4, .int (v4 ||| ((1 : Int32) <<< (v6 &&& 31)))), (5, .int (v5 ||| ((1 : Int32) <<< (v6 &&& 31)))), (6, .int (v6 + (1 : Int32)))]) [4, 5, 6, 3, 1, 2, 0] rfl (ih (v3 ||| (0 : Int32)) (v4 ||| ((1 : Int32) <<< (v6 &&& 31))) (v5 ||| ((1 : Int32) <<< (v6 &&& 31))) (v6 + (1 : Int32)) m6 _ h)
          · rw [if_neg c] at h
            refine J.aload_n 2 d_M_hangs_106 rfl rfl ?_
            refine J.getF (n := 126) hG d_M_hangs_107 fl_M_63 ck_109_39 rfl ?_
            refine J.iload 6 d_M_hangs_110 rfl ?_
            obtain ⟨x16, ex16, g, h⟩ := jld_some h
            refine J.il hG d_M_hangs_112 g ex16 ?_
            refine J.nop (pc' := 113) rfl ?_
            refine J.iload_n 3 d_M_hangs_113 rfl rfl ?_
            refine J.icmp_eq 171 d_M_hangs_114 rfl (fun c => ?_) (fun c => ?_)
            · rw [if_pos c] at h
              refine J.iload 5 d_M_hangs_171 rfl ?_
              refine J.iconst (v := (1 : Int32)) d_M_hangs_173 ki_1 ?_
              refine J.iload 6 d_M_hangs_174 rfl ?_
              refine J.ishl d_M_hangs_176 ?_
              refine J.ior d_M_hangs_177 ?_
              refine J.istore (lv := [(4, .int (v4 ||| ((1 : Int32) <<< (v6 &&& 31)))), (5, .int (v5 ||| ((1 : Int32) <<< (v6 &&& 31)))), (3, .int (v3 ||| (0 : Int32))), (0, jr G 109), (1, .int v1), (2, .int v2), (6, .int v6)]) d_M_hangs_178 (by decide) rfl ?_
              refine J.iinc 6 (v := (1 : Int32)) (lv := [(6, .int (v6 + (1 : Int32))), (4, .int (v4 ||| ((1 : Int32) <<< (v6 &&& 31)))), (5, .int (v5 ||| ((1 : Int32) <<< (v6 &&& 31)))), (3, .int (v3 ||| (0 : Int32))), (0, jr G 109), (1, .int v1), (2, .int v2)]) d_M_hangs_180 rfl ki_1 (by decide) rfl ?_
              refine J.goto 37 d_M_hangs_183 rfl ?_
              exact J.sub (ls' := [(0, jr G 109), (1, .int v1), (2, .int v2), (3, .int (v3 ||| (0 : Int32))), (4, .int (v4 ||| ((1 : Int32) <<< (v6 &&& 31)))), (5, .int (v5 ||| ((1 : Int32) <<< (v6 &&& 31)))), (6, .int (v6 + (1 : Int32)))]) [4, 5, 6, 3, 1, 2, 0] rfl (ih (v3 ||| (0 : Int32)) (v4 ||| ((1 : Int32) <<< (v6 &&& 31))) (v5 ||| ((1 : Int32) <<< (v6 &&& 31))) (v6 + (1 : Int32)) m6 _ h)
            · rw [if_neg c] at h
              refine J.aload_n 2 d_M_hangs_117 rfl rfl ?_
              refine J.getF (n := 125) hG d_M_hangs_118 fl_M_60 ck_109_38 rfl ?_
              refine J.iload 6 d_M_hangs_121 rfl ?_
              obtain ⟨x17, ex17, g, h⟩ := jld_some h
              refine J.il hG d_M_hangs_123 g ex17 ?_
              refine J.iconst (v := (-1 : Int32)) d_M_hangs_124 ki_m1 ?_
              refine J.icmp_eq 144 d_M_hangs_125 rfl (fun c => ?_) (fun c => ?_)
              · rw [if_pos c] at h
                refine J.aload_n 2 d_M_hangs_144 rfl rfl ?_
                refine J.getF (n := 126) hG d_M_hangs_145 fl_M_63 ck_109_39 rfl ?_
                refine J.iload 6 d_M_hangs_148 rfl ?_
                obtain ⟨x18, ex18, g, h⟩ := jld_some h
                refine J.il hG d_M_hangs_150 g ex18 ?_
                refine J.iconst (v := (-1 : Int32)) d_M_hangs_151 ki_m1 ?_
                refine J.icmp_eq 180 d_M_hangs_152 rfl (fun c => ?_) (fun c => ?_)
                · rw [if_pos c] at h
                  refine J.iinc 6 (v := (1 : Int32)) (lv := [(6, .int (v6 + (1 : Int32))), (5, .int (v5 ||| ((1 : Int32) <<< (v6 &&& 31)))), (3, .int (v3 ||| (0 : Int32))), (0, jr G 109), (1, .int v1), (2, .int v2), (4, .int v4)]) d_M_hangs_180 rfl ki_1 (by decide) rfl ?_
                  refine J.goto 37 d_M_hangs_183 rfl ?_
                  exact J.sub (ls' := [(0, jr G 109), (1, .int v1), (2, .int v2), (3, .int (v3 ||| (0 : Int32))), (4, .int v4), (5, .int (v5 ||| ((1 : Int32) <<< (v6 &&& 31)))), (6, .int (v6 + (1 : Int32)))]) [3, 4, 5, 2, 6, 1, 0] rfl (ih (v3 ||| (0 : Int32)) v4 (v5 ||| ((1 : Int32) <<< (v6 &&& 31))) (v6 + (1 : Int32)) m6 _ h)
                · rw [if_neg c] at h
                  refine J.iload 5 d_M_hangs_155 rfl ?_
                  refine J.aload_n 2 d_M_hangs_157 rfl rfl ?_
                  refine J.nop (pc' := 158) rfl ?_
                  refine J.getF (n := 126) hG d_M_hangs_158 fl_M_63 ck_109_39 rfl ?_
                  refine J.iload 6 d_M_hangs_161 rfl ?_
                  obtain ⟨x19, ex19, g, h⟩ := jld_some h
                  refine J.il hG d_M_hangs_163 g ex19 ?_
                  refine J.ishr d_M_hangs_164 ?_
                  refine J.iconst (v := (1 : Int32)) d_M_hangs_165 ki_1 ?_
                  refine J.iand d_M_hangs_166 ?_
                  refine J.iconst (v := (1 : Int32)) d_M_hangs_167 ki_1 ?_
                  refine J.icmp_ne 180 d_M_hangs_168 rfl (fun c => ?_) (fun c => ?_)
                  · rw [if_neg c] at h
                    refine J.iinc 6 (v := (1 : Int32)) (lv := [(6, .int (v6 + (1 : Int32))), (5, .int (v5 ||| ((1 : Int32) <<< (v6 &&& 31)))), (3, .int (v3 ||| (0 : Int32))), (0, jr G 109), (1, .int v1), (2, .int v2), (4, .int v4)]) d_M_hangs_180 rfl ki_1 (by decide) rfl ?_
                    refine J.goto 37 d_M_hangs_183 rfl ?_
                    exact J.sub (ls' := [(0, jr G 109), (1, .int v1), (2, .int v2), (3, .int (v3 ||| (0 : Int32))), (4, .int v4), (5, .int (v5 ||| ((1 : Int32) <<< (v6 &&& 31)))), (6, .int (v6 + (1 : Int32)))]) [3, 4, 5, 2, 6, 1, 0] rfl (ih (v3 ||| (0 : Int32)) v4 (v5 ||| ((1 : Int32) <<< (v6 &&& 31))) (v6 + (1 : Int32)) m6 _ h)
                  · rw [if_pos c] at h
                    refine J.nop (pc' := 171) rfl ?_
                    refine J.iload 5 d_M_hangs_171 rfl ?_
                    refine J.iconst (v := (1 : Int32)) d_M_hangs_173 ki_1 ?_
                    refine J.iload 6 d_M_hangs_174 rfl ?_
                    refine J.ishl d_M_hangs_176 ?_
                    refine J.ior d_M_hangs_177 ?_
                    refine J.istore (lv := [(4, .int (v4 ||| ((1 : Int32) <<< (v6 &&& 31)))), (5, .int (v5 ||| ((1 : Int32) <<< (v6 &&& 31)))), (3, .int (v3 ||| (0 : Int32))), (0, jr G 109), (1, .int v1), (2, .int v2), (6, .int v6)]) d_M_hangs_178 (by decide) rfl ?_
                    refine J.iinc 6 (v := (1 : Int32)) (lv := [(6, .int (v6 + (1 : Int32))), (4, .int (v4 ||| ((1 : Int32) <<< (v6 &&& 31)))), (5, .int (v5 ||| ((1 : Int32) <<< (v6 &&& 31)))), (3, .int (v3 ||| (0 : Int32))), (0, jr G 109), (1, .int v1), (2, .int v2)]) d_M_hangs_180 rfl ki_1 (by decide) rfl ?_
                    refine J.goto 37 d_M_hangs_183 rfl ?_
                    exact J.sub (ls' := [(0, jr G 109), (1, .int v1), (2, .int v2), (3, .int (v3 ||| (0 : Int32))), (4, .int (v4 ||| ((1 : Int32) <<< (v6 &&& 31)))), (5, .int (v5 ||| ((1 : Int32) <<< (v6 &&& 31)))), (6, .int (v6 + (1 : Int32)))]) [4, 5, 6, 3, 1, 2, 0] rfl (ih (v3 ||| (0 : Int32)) (v4 ||| ((1 : Int32) <<< (v6 &&& 31))) (v5 ||| ((1 : Int32) <<< (v6 &&& 31))) (v6 + (1 : Int32)) m6 _ h)
              · rw [if_neg c] at h
                refine J.nop (pc' := 128) rfl ?_
                refine J.iload 5 d_M_hangs_128 rfl ?_
                refine J.aload_n 2 d_M_hangs_130 rfl rfl ?_
                refine J.getF (n := 125) hG d_M_hangs_131 fl_M_60 ck_109_38 rfl ?_
                refine J.iload 6 d_M_hangs_134 rfl ?_
                obtain ⟨x20, ex20, g, h⟩ := jld_some h
                refine J.il hG d_M_hangs_136 g ex20 ?_
                refine J.ishr d_M_hangs_137 ?_
                refine J.iconst (v := (1 : Int32)) d_M_hangs_138 ki_1 ?_
                refine J.iand d_M_hangs_139 ?_
                refine J.nop (pc' := 140) rfl ?_
                refine J.iconst (v := (1 : Int32)) d_M_hangs_140 ki_1 ?_
                refine J.icmp_eq 171 d_M_hangs_141 rfl (fun c => ?_) (fun c => ?_)
                · rw [if_pos c] at h
                  refine J.iload 5 d_M_hangs_171 rfl ?_
                  refine J.iconst (v := (1 : Int32)) d_M_hangs_173 ki_1 ?_
                  refine J.iload 6 d_M_hangs_174 rfl ?_
                  refine J.ishl d_M_hangs_176 ?_
                  refine J.ior d_M_hangs_177 ?_
                  refine J.istore (lv := [(4, .int (v4 ||| ((1 : Int32) <<< (v6 &&& 31)))), (5, .int (v5 ||| ((1 : Int32) <<< (v6 &&& 31)))), (3, .int (v3 ||| (0 : Int32))), (0, jr G 109), (1, .int v1), (2, .int v2), (6, .int v6)]) d_M_hangs_178 (by decide) rfl ?_
                  refine J.iinc 6 (v := (1 : Int32)) (lv := [(6, .int (v6 + (1 : Int32))), (4, .int (v4 ||| ((1 : Int32) <<< (v6 &&& 31)))), (5, .int (v5 ||| ((1 : Int32) <<< (v6 &&& 31)))), (3, .int (v3 ||| (0 : Int32))), (0, jr G 109), (1, .int v1), (2, .int v2)]) d_M_hangs_180 rfl ki_1 (by decide) rfl ?_
                  refine J.goto 37 d_M_hangs_183 rfl ?_
                  exact J.sub (ls' := [(0, jr G 109), (1, .int v1), (2, .int v2), (3, .int (v3 ||| (0 : Int32))), (4, .int (v4 ||| ((1 : Int32) <<< (v6 &&& 31)))), (5, .int (v5 ||| ((1 : Int32) <<< (v6 &&& 31)))), (6, .int (v6 + (1 : Int32)))]) [4, 5, 6, 3, 1, 2, 0] rfl (ih (v3 ||| (0 : Int32)) (v4 ||| ((1 : Int32) <<< (v6 &&& 31))) (v5 ||| ((1 : Int32) <<< (v6 &&& 31))) (v6 + (1 : Int32)) m6 _ h)
                · rw [if_neg c] at h
                  refine J.aload_n 2 d_M_hangs_144 rfl rfl ?_
                  refine J.getF (n := 126) hG d_M_hangs_145 fl_M_63 ck_109_39 rfl ?_
                  refine J.iload 6 d_M_hangs_148 rfl ?_
                  obtain ⟨x21, ex21, g, h⟩ := jld_some h
                  refine J.il hG d_M_hangs_150 g ex21 ?_
                  refine J.iconst (v := (-1 : Int32)) d_M_hangs_151 ki_m1 ?_
                  refine J.icmp_eq 180 d_M_hangs_152 rfl (fun c => ?_) (fun c => ?_)
                  · rw [if_pos c] at h
                    refine J.iinc 6 (v := (1 : Int32)) (lv := [(6, .int (v6 + (1 : Int32))), (5, .int (v5 ||| ((1 : Int32) <<< (v6 &&& 31)))), (3, .int (v3 ||| (0 : Int32))), (0, jr G 109), (1, .int v1), (2, .int v2), (4, .int v4)]) d_M_hangs_180 rfl ki_1 (by decide) rfl ?_
                    refine J.goto 37 d_M_hangs_183 rfl ?_
                    exact J.sub (ls' := [(0, jr G 109), (1, .int v1), (2, .int v2), (3, .int (v3 ||| (0 : Int32))), (4, .int v4), (5, .int (v5 ||| ((1 : Int32) <<< (v6 &&& 31)))), (6, .int (v6 + (1 : Int32)))]) [3, 4, 5, 2, 6, 1, 0] rfl (ih (v3 ||| (0 : Int32)) v4 (v5 ||| ((1 : Int32) <<< (v6 &&& 31))) (v6 + (1 : Int32)) m6 _ h)
                  · rw [if_neg c] at h
                    refine J.nop (pc' := 155) rfl ?_
                    refine J.iload 5 d_M_hangs_155 rfl ?_
                    refine J.aload_n 2 d_M_hangs_157 rfl rfl ?_
                    refine J.getF (n := 126) hG d_M_hangs_158 fl_M_63 ck_109_39 rfl ?_
                    refine J.iload 6 d_M_hangs_161 rfl ?_
                    obtain ⟨x22, ex22, g, h⟩ := jld_some h
                    refine J.il hG d_M_hangs_163 g ex22 ?_
                    refine J.ishr d_M_hangs_164 ?_
                    refine J.iconst (v := (1 : Int32)) d_M_hangs_165 ki_1 ?_
                    refine J.iand d_M_hangs_166 ?_
                    refine J.nop (pc' := 167) rfl ?_
                    refine J.iconst (v := (1 : Int32)) d_M_hangs_167 ki_1 ?_
                    refine J.icmp_ne 180 d_M_hangs_168 rfl (fun c => ?_) (fun c => ?_)
                    · rw [if_neg c] at h
                      refine J.iinc 6 (v := (1 : Int32)) (lv := [(6, .int (v6 + (1 : Int32))), (5, .int (v5 ||| ((1 : Int32) <<< (v6 &&& 31)))), (3, .int (v3 ||| (0 : Int32))), (0, jr G 109), (1, .int v1), (2, .int v2), (4, .int v4)]) d_M_hangs_180 rfl ki_1 (by decide) rfl ?_
                      refine J.goto 37 d_M_hangs_183 rfl ?_
                      exact J.sub (ls' := [(0, jr G 109), (1, .int v1), (2, .int v2), (3, .int (v3 ||| (0 : Int32))), (4, .int v4), (5, .int (v5 ||| ((1 : Int32) <<< (v6 &&& 31)))), (6, .int (v6 + (1 : Int32)))]) [3, 4, 5, 2, 6, 1, 0] rfl (ih (v3 ||| (0 : Int32)) v4 (v5 ||| ((1 : Int32) <<< (v6 &&& 31))) (v6 + (1 : Int32)) m6 _ h)
                    · rw [if_pos c] at h
                      refine J.iload 5 d_M_hangs_171 rfl ?_
                      refine J.iconst (v := (1 : Int32)) d_M_hangs_173 ki_1 ?_
                      refine J.iload 6 d_M_hangs_174 rfl ?_
                      refine J.ishl d_M_hangs_176 ?_
                      refine J.ior d_M_hangs_177 ?_
                      refine J.istore (lv := [(4, .int (v4 ||| ((1 : Int32) <<< (v6 &&& 31)))), (5, .int (v5 ||| ((1 : Int32) <<< (v6 &&& 31)))), (3, .int (v3 ||| (0 : Int32))), (0, jr G 109), (1, .int v1), (2, .int v2), (6, .int v6)]) d_M_hangs_178 (by decide) rfl ?_
                      refine J.nop (pc' := 180) rfl ?_
                      refine J.iinc 6 (v := (1 : Int32)) (lv := [(6, .int (v6 + (1 : Int32))), (4, .int (v4 ||| ((1 : Int32) <<< (v6 &&& 31)))), (5, .int (v5 ||| ((1 : Int32) <<< (v6 &&& 31)))), (3, .int (v3 ||| (0 : Int32))), (0, jr G 109), (1, .int v1), (2, .int v2)]) d_M_hangs_180 rfl ki_1 (by decide) rfl ?_
                      refine J.goto 37 d_M_hangs_183 rfl ?_
                      exact J.sub (ls' := [(0, jr G 109), (1, .int v1), (2, .int v2), (3, .int (v3 ||| (0 : Int32))), (4, .int (v4 ||| ((1 : Int32) <<< (v6 &&& 31)))), (5, .int (v5 ||| ((1 : Int32) <<< (v6 &&& 31)))), (6, .int (v6 + (1 : Int32)))]) [4, 5, 6, 3, 1, 2, 0] rfl (ih (v3 ||| (0 : Int32)) (v4 ||| ((1 : Int32) <<< (v6 &&& 31))) (v5 ||| ((1 : Int32) <<< (v6 &&& 31))) (v6 + (1 : Int32)) m6 _ h)
      · rw [if_pos c] at h
        refine J.aload_n 0 d_M_hangs_58 rfl rfl ?_
        refine J.getF (n := 125) hG d_M_hangs_59 fl_M_60 ck_109_38 rfl ?_
        refine J.iload 6 d_M_hangs_62 rfl ?_
        obtain ⟨x23, ex23, g, h⟩ := jld_some h
        refine J.il hG d_M_hangs_64 g ex23 ?_
        refine J.iload_n 1 d_M_hangs_65 rfl rfl ?_
        refine J.nop (pc' := 66) rfl ?_
        refine J.icmp_ne 73 d_M_hangs_66 rfl (fun c => ?_) (fun c => ?_)
        · rw [if_neg c] at h
          refine J.iconst (v := (0 : Int32)) d_M_hangs_73 ki_0 ?_
          refine J.ior d_M_hangs_74 ?_
          refine J.istore_n (lv := [(3, .int (v3 ||| (0 : Int32))), (0, jr G 109), (1, .int v1), (2, .int v2), (4, .int v4), (5, .int v5), (6, .int v6)]) d_M_hangs_75 rfl (by decide) rfl ?_
          refine J.aload_n 1 d_M_hangs_76 rfl rfl ?_
          refine J.iload_n 2 d_M_hangs_77 rfl rfl ?_
          refine J.iload 6 d_M_hangs_78 rfl ?_
          obtain ⟨x24, m25, zm25, h⟩ := jbd_some h
          refine J.cVi Y_M_isBefore (As := [.int v1, .int v6]) (rest := []) hG d_M_hangs_80 mi_M_isBefore mv_M_isBefore lk_M_350 ⟨rfl, rfl, Nat.le_of_ble_eq_true rfl⟩ cq_109 cc_10 (c_M_isBefore hG zm25) rfl (Nat.le_trans jcN (Nat.le_of_ble_eq_true rfl)) ?_
          refine J.if_eq 95 d_M_hangs_83 rfl (fun c => ?_) (fun c => ?_)
          · rw [if_pos c] at h
            refine J.aload_n 1 d_M_hangs_95 rfl rfl ?_
            refine J.getF (n := 125) hG d_M_hangs_96 fl_M_60 ck_109_38 rfl ?_
            refine J.iload 6 d_M_hangs_99 rfl ?_
            obtain ⟨x26, ex26, g, h⟩ := jld_some h
            refine J.il hG d_M_hangs_101 g ex26 ?_
            refine J.iload_n 2 d_M_hangs_102 rfl rfl ?_
            refine J.icmp_eq 171 d_M_hangs_103 rfl (fun c => ?_) (fun c => ?_)
            · rw [if_pos c] at h
              refine J.iload 4 d_M_hangs_171 rfl ?_
              refine J.iconst (v := (1 : Int32)) d_M_hangs_173 ki_1 ?_
              refine J.iload 6 d_M_hangs_174 rfl ?_
              refine J.ishl d_M_hangs_176 ?_
              refine J.ior d_M_hangs_177 ?_
              refine J.istore (lv := [(4, .int (v4 ||| ((1 : Int32) <<< (v6 &&& 31)))), (3, .int (v3 ||| (0 : Int32))), (0, jr G 109), (1, .int v1), (2, .int v2), (5, .int v5), (6, .int v6)]) d_M_hangs_178 (by decide) rfl ?_
              refine J.iinc 6 (v := (1 : Int32)) (lv := [(6, .int (v6 + (1 : Int32))), (4, .int (v4 ||| ((1 : Int32) <<< (v6 &&& 31)))), (3, .int (v3 ||| (0 : Int32))), (0, jr G 109), (1, .int v1), (2, .int v2), (5, .int v5)]) d_M_hangs_180 rfl ki_1 (by decide) rfl ?_
              refine J.goto 37 d_M_hangs_183 rfl ?_
              exact J.sub (ls' := [(0, jr G 109), (1, .int v1), (2, .int v2), (3, .int (v3 ||| (0 : Int32))), (4, .int (v4 ||| ((1 : Int32) <<< (v6 &&& 31)))), (5, .int v5), (6, .int (v6 + (1 : Int32)))]) [3, 4, 5, 2, 1, 6, 0] rfl (ih (v3 ||| (0 : Int32)) (v4 ||| ((1 : Int32) <<< (v6 &&& 31))) v5 (v6 + (1 : Int32)) m25 _ h)
            · rw [if_neg c] at h
              refine J.aload_n 1 d_M_hangs_106 rfl rfl ?_
              refine J.getF (n := 126) hG d_M_hangs_107 fl_M_63 ck_109_39 rfl ?_
              refine J.nop (pc' := 110) rfl ?_
              refine J.iload 6 d_M_hangs_110 rfl ?_
              obtain ⟨x27, ex27, g, h⟩ := jld_some h
              refine J.il hG d_M_hangs_112 g ex27 ?_
              refine J.iload_n 2 d_M_hangs_113 rfl rfl ?_
              refine J.icmp_eq 171 d_M_hangs_114 rfl (fun c => ?_) (fun c => ?_)
              · rw [if_pos c] at h
                refine J.iload 4 d_M_hangs_171 rfl ?_
                refine J.iconst (v := (1 : Int32)) d_M_hangs_173 ki_1 ?_
                refine J.iload 6 d_M_hangs_174 rfl ?_
                refine J.ishl d_M_hangs_176 ?_
                refine J.ior d_M_hangs_177 ?_
                refine J.istore (lv := [(4, .int (v4 ||| ((1 : Int32) <<< (v6 &&& 31)))), (3, .int (v3 ||| (0 : Int32))), (0, jr G 109), (1, .int v1), (2, .int v2), (5, .int v5), (6, .int v6)]) d_M_hangs_178 (by decide) rfl ?_
                refine J.iinc 6 (v := (1 : Int32)) (lv := [(6, .int (v6 + (1 : Int32))), (4, .int (v4 ||| ((1 : Int32) <<< (v6 &&& 31)))), (3, .int (v3 ||| (0 : Int32))), (0, jr G 109), (1, .int v1), (2, .int v2), (5, .int v5)]) d_M_hangs_180 rfl ki_1 (by decide) rfl ?_
                refine J.goto 37 d_M_hangs_183 rfl ?_
                exact J.sub (ls' := [(0, jr G 109), (1, .int v1), (2, .int v2), (3, .int (v3 ||| (0 : Int32))), (4, .int (v4 ||| ((1 : Int32) <<< (v6 &&& 31)))), (5, .int v5), (6, .int (v6 + (1 : Int32)))]) [3, 4, 5, 2, 1, 6, 0] rfl (ih (v3 ||| (0 : Int32)) (v4 ||| ((1 : Int32) <<< (v6 &&& 31))) v5 (v6 + (1 : Int32)) m25 _ h)
              · rw [if_neg c] at h
                refine J.aload_n 1 d_M_hangs_117 rfl rfl ?_
                refine J.getF (n := 125) hG d_M_hangs_118 fl_M_60 ck_109_38 rfl ?_
                refine J.iload 6 d_M_hangs_121 rfl ?_
                obtain ⟨x28, ex28, g, h⟩ := jld_some h
                refine J.il hG d_M_hangs_123 g ex28 ?_
                refine J.nop (pc' := 124) rfl ?_
                refine J.iconst (v := (-1 : Int32)) d_M_hangs_124 ki_m1 ?_
                refine J.icmp_eq 144 d_M_hangs_125 rfl (fun c => ?_) (fun c => ?_)
                · rw [if_pos c] at h
                  refine J.aload_n 1 d_M_hangs_144 rfl rfl ?_
                  refine J.getF (n := 126) hG d_M_hangs_145 fl_M_63 ck_109_39 rfl ?_
                  refine J.iload 6 d_M_hangs_148 rfl ?_
                  obtain ⟨x29, ex29, g, h⟩ := jld_some h
                  refine J.il hG d_M_hangs_150 g ex29 ?_
                  refine J.iconst (v := (-1 : Int32)) d_M_hangs_151 ki_m1 ?_
                  refine J.icmp_eq 180 d_M_hangs_152 rfl (fun c => ?_) (fun c => ?_)
                  · rw [if_pos c] at h
                    refine J.iinc 6 (v := (1 : Int32)) (lv := [(6, .int (v6 + (1 : Int32))), (3, .int (v3 ||| (0 : Int32))), (0, jr G 109), (1, .int v1), (2, .int v2), (4, .int v4), (5, .int v5)]) d_M_hangs_180 rfl ki_1 (by decide) rfl ?_
                    refine J.goto 37 d_M_hangs_183 rfl ?_
                    exact J.sub (ls' := [(0, jr G 109), (1, .int v1), (2, .int v2), (3, .int (v3 ||| (0 : Int32))), (4, .int v4), (5, .int v5), (6, .int (v6 + (1 : Int32)))]) [2, 3, 4, 1, 5, 6, 0] rfl (ih (v3 ||| (0 : Int32)) v4 v5 (v6 + (1 : Int32)) m25 _ h)
                  · rw [if_neg c] at h
                    refine J.iload 4 d_M_hangs_155 rfl ?_
                    refine J.aload_n 1 d_M_hangs_157 rfl rfl ?_
                    refine J.nop (pc' := 158) rfl ?_
                    refine J.getF (n := 126) hG d_M_hangs_158 fl_M_63 ck_109_39 rfl ?_
                    refine J.iload 6 d_M_hangs_161 rfl ?_
                    obtain ⟨x30, ex30, g, h⟩ := jld_some h
                    refine J.il hG d_M_hangs_163 g ex30 ?_
                    refine J.ishr d_M_hangs_164 ?_
                    refine J.iconst (v := (1 : Int32)) d_M_hangs_165 ki_1 ?_
                    refine J.iand d_M_hangs_166 ?_
                    refine J.iconst (v := (1 : Int32)) d_M_hangs_167 ki_1 ?_
                    refine J.icmp_ne 180 d_M_hangs_168 rfl (fun c => ?_) (fun c => ?_)
                    · rw [if_neg c] at h
                      refine J.iinc 6 (v := (1 : Int32)) (lv := [(6, .int (v6 + (1 : Int32))), (3, .int (v3 ||| (0 : Int32))), (0, jr G 109), (1, .int v1), (2, .int v2), (4, .int v4), (5, .int v5)]) d_M_hangs_180 rfl ki_1 (by decide) rfl ?_
                      refine J.goto 37 d_M_hangs_183 rfl ?_
                      exact J.sub (ls' := [(0, jr G 109), (1, .int v1), (2, .int v2), (3, .int (v3 ||| (0 : Int32))), (4, .int v4), (5, .int v5), (6, .int (v6 + (1 : Int32)))]) [2, 3, 4, 1, 5, 6, 0] rfl (ih (v3 ||| (0 : Int32)) v4 v5 (v6 + (1 : Int32)) m25 _ h)
                    · rw [if_pos c] at h
                      refine J.nop (pc' := 171) rfl ?_
                      refine J.iload 4 d_M_hangs_171 rfl ?_
                      refine J.iconst (v := (1 : Int32)) d_M_hangs_173 ki_1 ?_
                      refine J.iload 6 d_M_hangs_174 rfl ?_
                      refine J.ishl d_M_hangs_176 ?_
                      refine J.ior d_M_hangs_177 ?_
                      refine J.istore (lv := [(4, .int (v4 ||| ((1 : Int32) <<< (v6 &&& 31)))), (3, .int (v3 ||| (0 : Int32))), (0, jr G 109), (1, .int v1), (2, .int v2), (5, .int v5), (6, .int v6)]) d_M_hangs_178 (by decide) rfl ?_
                      refine J.iinc 6 (v := (1 : Int32)) (lv := [(6, .int (v6 + (1 : Int32))), (4, .int (v4 ||| ((1 : Int32) <<< (v6 &&& 31)))), (3, .int (v3 ||| (0 : Int32))), (0, jr G 109), (1, .int v1), (2, .int v2), (5, .int v5)]) d_M_hangs_180 rfl ki_1 (by decide) rfl ?_
                      refine J.goto 37 d_M_hangs_183 rfl ?_
                      exact J.sub (ls' := [(0, jr G 109), (1, .int v1), (2, .int v2), (3, .int (v3 ||| (0 : Int32))), (4, .int (v4 ||| ((1 : Int32) <<< (v6 &&& 31)))), (5, .int v5), (6, .int (v6 + (1 : Int32)))]) [3, 4, 5, 2, 1, 6, 0] rfl (ih (v3 ||| (0 : Int32)) (v4 ||| ((1 : Int32) <<< (v6 &&& 31))) v5 (v6 + (1 : Int32)) m25 _ h)
                · rw [if_neg c] at h
                  refine J.iload 4 d_M_hangs_128 rfl ?_
                  refine J.aload_n 1 d_M_hangs_130 rfl rfl ?_
                  refine J.getF (n := 125) hG d_M_hangs_131 fl_M_60 ck_109_38 rfl ?_
                  refine J.iload 6 d_M_hangs_134 rfl ?_
                  obtain ⟨x31, ex31, g, h⟩ := jld_some h
                  refine J.il hG d_M_hangs_136 g ex31 ?_
                  refine J.ishr d_M_hangs_137 ?_
                  refine J.nop (pc' := 138) rfl ?_
                  refine J.iconst (v := (1 : Int32)) d_M_hangs_138 ki_1 ?_
                  refine J.iand d_M_hangs_139 ?_
                  refine J.iconst (v := (1 : Int32)) d_M_hangs_140 ki_1 ?_
                  refine J.icmp_eq 171 d_M_hangs_141 rfl (fun c => ?_) (fun c => ?_)
                  · rw [if_pos c] at h
                    refine J.iload 4 d_M_hangs_171 rfl ?_
                    refine J.iconst (v := (1 : Int32)) d_M_hangs_173 ki_1 ?_
                    refine J.iload 6 d_M_hangs_174 rfl ?_
                    refine J.ishl d_M_hangs_176 ?_
                    refine J.ior d_M_hangs_177 ?_
                    refine J.istore (lv := [(4, .int (v4 ||| ((1 : Int32) <<< (v6 &&& 31)))), (3, .int (v3 ||| (0 : Int32))), (0, jr G 109), (1, .int v1), (2, .int v2), (5, .int v5), (6, .int v6)]) d_M_hangs_178 (by decide) rfl ?_
                    refine J.iinc 6 (v := (1 : Int32)) (lv := [(6, .int (v6 + (1 : Int32))), (4, .int (v4 ||| ((1 : Int32) <<< (v6 &&& 31)))), (3, .int (v3 ||| (0 : Int32))), (0, jr G 109), (1, .int v1), (2, .int v2), (5, .int v5)]) d_M_hangs_180 rfl ki_1 (by decide) rfl ?_
                    refine J.goto 37 d_M_hangs_183 rfl ?_
                    exact J.sub (ls' := [(0, jr G 109), (1, .int v1), (2, .int v2), (3, .int (v3 ||| (0 : Int32))), (4, .int (v4 ||| ((1 : Int32) <<< (v6 &&& 31)))), (5, .int v5), (6, .int (v6 + (1 : Int32)))]) [3, 4, 5, 2, 1, 6, 0] rfl (ih (v3 ||| (0 : Int32)) (v4 ||| ((1 : Int32) <<< (v6 &&& 31))) v5 (v6 + (1 : Int32)) m25 _ h)
                  · rw [if_neg c] at h
                    refine J.aload_n 1 d_M_hangs_144 rfl rfl ?_
                    refine J.getF (n := 126) hG d_M_hangs_145 fl_M_63 ck_109_39 rfl ?_
                    refine J.iload 6 d_M_hangs_148 rfl ?_
                    obtain ⟨x32, ex32, g, h⟩ := jld_some h
                    refine J.il hG d_M_hangs_150 g ex32 ?_
                    refine J.nop (pc' := 151) rfl ?_
                    refine J.iconst (v := (-1 : Int32)) d_M_hangs_151 ki_m1 ?_
                    refine J.icmp_eq 180 d_M_hangs_152 rfl (fun c => ?_) (fun c => ?_)
                    · rw [if_pos c] at h
                      refine J.iinc 6 (v := (1 : Int32)) (lv := [(6, .int (v6 + (1 : Int32))), (3, .int (v3 ||| (0 : Int32))), (0, jr G 109), (1, .int v1), (2, .int v2), (4, .int v4), (5, .int v5)]) d_M_hangs_180 rfl ki_1 (by decide) rfl ?_
                      refine J.goto 37 d_M_hangs_183 rfl ?_
                      exact J.sub (ls' := [(0, jr G 109), (1, .int v1), (2, .int v2), (3, .int (v3 ||| (0 : Int32))), (4, .int v4), (5, .int v5), (6, .int (v6 + (1 : Int32)))]) [2, 3, 4, 1, 5, 6, 0] rfl (ih (v3 ||| (0 : Int32)) v4 v5 (v6 + (1 : Int32)) m25 _ h)
                    · rw [if_neg c] at h
                      refine J.iload 4 d_M_hangs_155 rfl ?_
                      refine J.aload_n 1 d_M_hangs_157 rfl rfl ?_
                      refine J.getF (n := 126) hG d_M_hangs_158 fl_M_63 ck_109_39 rfl ?_
                      refine J.iload 6 d_M_hangs_161 rfl ?_
                      obtain ⟨x33, ex33, g, h⟩ := jld_some h
                      refine J.il hG d_M_hangs_163 g ex33 ?_
                      refine J.ishr d_M_hangs_164 ?_
                      refine J.nop (pc' := 165) rfl ?_
                      refine J.iconst (v := (1 : Int32)) d_M_hangs_165 ki_1 ?_
                      refine J.iand d_M_hangs_166 ?_
                      refine J.iconst (v := (1 : Int32)) d_M_hangs_167 ki_1 ?_
                      refine J.icmp_ne 180 d_M_hangs_168 rfl (fun c => ?_) (fun c => ?_)
                      · rw [if_neg c] at h
                        refine J.iinc 6 (v := (1 : Int32)) (lv := [(6, .int (v6 + (1 : Int32))), (3, .int (v3 ||| (0 : Int32))), (0, jr G 109), (1, .int v1), (2, .int v2), (4, .int v4), (5, .int v5)]) d_M_hangs_180 rfl ki_1 (by decide) rfl ?_
                        refine J.goto 37 d_M_hangs_183 rfl ?_
                        exact J.sub (ls' := [(0, jr G 109), (1, .int v1), (2, .int v2), (3, .int (v3 ||| (0 : Int32))), (4, .int v4), (5, .int v5), (6, .int (v6 + (1 : Int32)))]) [2, 3, 4, 1, 5, 6, 0] rfl (ih (v3 ||| (0 : Int32)) v4 v5 (v6 + (1 : Int32)) m25 _ h)
                      · rw [if_pos c] at h
                        refine J.iload 4 d_M_hangs_171 rfl ?_
                        refine J.iconst (v := (1 : Int32)) d_M_hangs_173 ki_1 ?_
                        refine J.iload 6 d_M_hangs_174 rfl ?_
                        refine J.ishl d_M_hangs_176 ?_
                        refine J.nop (pc' := 177) rfl ?_
                        refine J.ior d_M_hangs_177 ?_
                        refine J.istore (lv := [(4, .int (v4 ||| ((1 : Int32) <<< (v6 &&& 31)))), (3, .int (v3 ||| (0 : Int32))), (0, jr G 109), (1, .int v1), (2, .int v2), (5, .int v5), (6, .int v6)]) d_M_hangs_178 (by decide) rfl ?_
                        refine J.iinc 6 (v := (1 : Int32)) (lv := [(6, .int (v6 + (1 : Int32))), (4, .int (v4 ||| ((1 : Int32) <<< (v6 &&& 31)))), (3, .int (v3 ||| (0 : Int32))), (0, jr G 109), (1, .int v1), (2, .int v2), (5, .int v5)]) d_M_hangs_180 rfl ki_1 (by decide) rfl ?_
                        refine J.goto 37 d_M_hangs_183 rfl ?_
                        exact J.sub (ls' := [(0, jr G 109), (1, .int v1), (2, .int v2), (3, .int (v3 ||| (0 : Int32))), (4, .int (v4 ||| ((1 : Int32) <<< (v6 &&& 31)))), (5, .int v5), (6, .int (v6 + (1 : Int32)))]) [3, 4, 5, 2, 1, 6, 0] rfl (ih (v3 ||| (0 : Int32)) (v4 ||| ((1 : Int32) <<< (v6 &&& 31))) v5 (v6 + (1 : Int32)) m25 _ h)
          · rw [if_neg c] at h
            refine J.nop (pc' := 86) rfl ?_
            refine J.iload 5 d_M_hangs_86 rfl ?_
            refine J.iconst (v := (1 : Int32)) d_M_hangs_88 ki_1 ?_
            refine J.iload 6 d_M_hangs_89 rfl ?_
            refine J.ishl d_M_hangs_91 ?_
            refine J.ior d_M_hangs_92 ?_
            refine J.istore (lv := [(5, .int (v5 ||| ((1 : Int32) <<< (v6 &&& 31)))), (3, .int (v3 ||| (0 : Int32))), (0, jr G 109), (1, .int v1), (2, .int v2), (4, .int v4), (6, .int v6)]) d_M_hangs_93 (by decide) rfl ?_
            refine J.aload_n 2 d_M_hangs_95 rfl rfl ?_
            refine J.getF (n := 125) hG d_M_hangs_96 fl_M_60 ck_109_38 rfl ?_
            refine J.nop (pc' := 99) rfl ?_
            refine J.iload 6 d_M_hangs_99 rfl ?_
            obtain ⟨x34, ex34, g, h⟩ := jld_some h
            refine J.il hG d_M_hangs_101 g ex34 ?_
            refine J.iload_n 3 d_M_hangs_102 rfl rfl ?_
            refine J.icmp_eq 171 d_M_hangs_103 rfl (fun c => ?_) (fun c => ?_)
            · rw [if_pos c] at h
              refine J.iload 5 d_M_hangs_171 rfl ?_
              refine J.iconst (v := (1 : Int32)) d_M_hangs_173 ki_1 ?_
              refine J.iload 6 d_M_hangs_174 rfl ?_
              refine J.ishl d_M_hangs_176 ?_
              refine J.ior d_M_hangs_177 ?_
              refine J.istore (lv := [(4, .int (v4 ||| ((1 : Int32) <<< (v6 &&& 31)))), (5, .int (v5 ||| ((1 : Int32) <<< (v6 &&& 31)))), (3, .int (v3 ||| (0 : Int32))), (0, jr G 109), (1, .int v1), (2, .int v2), (6, .int v6)]) d_M_hangs_178 (by decide) rfl ?_
              refine J.iinc 6 (v := (1 : Int32)) (lv := [(6, .int (v6 + (1 : Int32))), (4, .int (v4 ||| ((1 : Int32) <<< (v6 &&& 31)))), (5, .int (v5 ||| ((1 : Int32) <<< (v6 &&& 31)))), (3, .int (v3 ||| (0 : Int32))), (0, jr G 109), (1, .int v1), (2, .int v2)]) d_M_hangs_180 rfl ki_1 (by decide) rfl ?_
              refine J.goto 37 d_M_hangs_183 rfl ?_
              exact J.sub (ls' := [(0, jr G 109), (1, .int v1), (2, .int v2), (3, .int (v3 ||| (0 : Int32))), (4, .int (v4 ||| ((1 : Int32) <<< (v6 &&& 31)))), (5, .int (v5 ||| ((1 : Int32) <<< (v6 &&& 31)))), (6, .int (v6 + (1 : Int32)))]) [4, 5, 6, 3, 1, 2, 0] rfl (ih (v3 ||| (0 : Int32)) (v4 ||| ((1 : Int32) <<< (v6 &&& 31))) (v5 ||| ((1 : Int32) <<< (v6 &&& 31))) (v6 + (1 : Int32)) m25 _ h)
            · rw [if_neg c] at h
              refine J.aload_n 2 d_M_hangs_106 rfl rfl ?_
              refine J.getF (n := 126) hG d_M_hangs_107 fl_M_63 ck_109_39 rfl ?_
              refine J.iload 6 d_M_hangs_110 rfl ?_
              obtain ⟨x35, ex35, g, h⟩ := jld_some h
              refine J.il hG d_M_hangs_112 g ex35 ?_
              refine J.nop (pc' := 113) rfl ?_
              refine J.iload_n 3 d_M_hangs_113 rfl rfl ?_
              refine J.icmp_eq 171 d_M_hangs_114 rfl (fun c => ?_) (fun c => ?_)
              · rw [if_pos c] at h
                refine J.iload 5 d_M_hangs_171 rfl ?_
                refine J.iconst (v := (1 : Int32)) d_M_hangs_173 ki_1 ?_
                refine J.iload 6 d_M_hangs_174 rfl ?_
                refine J.ishl d_M_hangs_176 ?_
                refine J.ior d_M_hangs_177 ?_
                refine J.istore (lv := [(4, .int (v4 ||| ((1 : Int32) <<< (v6 &&& 31)))), (5, .int (v5 ||| ((1 : Int32) <<< (v6 &&& 31)))), (3, .int (v3 ||| (0 : Int32))), (0, jr G 109), (1, .int v1), (2, .int v2), (6, .int v6)]) d_M_hangs_178 (by decide) rfl ?_
                refine J.iinc 6 (v := (1 : Int32)) (lv := [(6, .int (v6 + (1 : Int32))), (4, .int (v4 ||| ((1 : Int32) <<< (v6 &&& 31)))), (5, .int (v5 ||| ((1 : Int32) <<< (v6 &&& 31)))), (3, .int (v3 ||| (0 : Int32))), (0, jr G 109), (1, .int v1), (2, .int v2)]) d_M_hangs_180 rfl ki_1 (by decide) rfl ?_
                refine J.goto 37 d_M_hangs_183 rfl ?_
                exact J.sub (ls' := [(0, jr G 109), (1, .int v1), (2, .int v2), (3, .int (v3 ||| (0 : Int32))), (4, .int (v4 ||| ((1 : Int32) <<< (v6 &&& 31)))), (5, .int (v5 ||| ((1 : Int32) <<< (v6 &&& 31)))), (6, .int (v6 + (1 : Int32)))]) [4, 5, 6, 3, 1, 2, 0] rfl (ih (v3 ||| (0 : Int32)) (v4 ||| ((1 : Int32) <<< (v6 &&& 31))) (v5 ||| ((1 : Int32) <<< (v6 &&& 31))) (v6 + (1 : Int32)) m25 _ h)
              · rw [if_neg c] at h
                refine J.aload_n 2 d_M_hangs_117 rfl rfl ?_
                refine J.getF (n := 125) hG d_M_hangs_118 fl_M_60 ck_109_38 rfl ?_
                refine J.iload 6 d_M_hangs_121 rfl ?_
                obtain ⟨x36, ex36, g, h⟩ := jld_some h
                refine J.il hG d_M_hangs_123 g ex36 ?_
                refine J.iconst (v := (-1 : Int32)) d_M_hangs_124 ki_m1 ?_
                refine J.icmp_eq 144 d_M_hangs_125 rfl (fun c => ?_) (fun c => ?_)
                · rw [if_pos c] at h
                  refine J.aload_n 2 d_M_hangs_144 rfl rfl ?_
                  refine J.getF (n := 126) hG d_M_hangs_145 fl_M_63 ck_109_39 rfl ?_
                  refine J.iload 6 d_M_hangs_148 rfl ?_
                  obtain ⟨x37, ex37, g, h⟩ := jld_some h
                  refine J.il hG d_M_hangs_150 g ex37 ?_
                  refine J.iconst (v := (-1 : Int32)) d_M_hangs_151 ki_m1 ?_
                  refine J.icmp_eq 180 d_M_hangs_152 rfl (fun c => ?_) (fun c => ?_)
                  · rw [if_pos c] at h
                    refine J.iinc 6 (v := (1 : Int32)) (lv := [(6, .int (v6 + (1 : Int32))), (5, .int (v5 ||| ((1 : Int32) <<< (v6 &&& 31)))), (3, .int (v3 ||| (0 : Int32))), (0, jr G 109), (1, .int v1), (2, .int v2), (4, .int v4)]) d_M_hangs_180 rfl ki_1 (by decide) rfl ?_
                    refine J.goto 37 d_M_hangs_183 rfl ?_
                    exact J.sub (ls' := [(0, jr G 109), (1, .int v1), (2, .int v2), (3, .int (v3 ||| (0 : Int32))), (4, .int v4), (5, .int (v5 ||| ((1 : Int32) <<< (v6 &&& 31)))), (6, .int (v6 + (1 : Int32)))]) [3, 4, 5, 2, 6, 1, 0] rfl (ih (v3 ||| (0 : Int32)) v4 (v5 ||| ((1 : Int32) <<< (v6 &&& 31))) (v6 + (1 : Int32)) m25 _ h)
                  · rw [if_neg c] at h
                    refine J.iload 5 d_M_hangs_155 rfl ?_
                    refine J.aload_n 2 d_M_hangs_157 rfl rfl ?_
                    refine J.nop (pc' := 158) rfl ?_
                    refine J.getF (n := 126) hG d_M_hangs_158 fl_M_63 ck_109_39 rfl ?_
                    refine J.iload 6 d_M_hangs_161 rfl ?_
                    obtain ⟨x38, ex38, g, h⟩ := jld_some h
                    refine J.il hG d_M_hangs_163 g ex38 ?_
                    refine J.ishr d_M_hangs_164 ?_
                    refine J.iconst (v := (1 : Int32)) d_M_hangs_165 ki_1 ?_
                    refine J.iand d_M_hangs_166 ?_
                    refine J.iconst (v := (1 : Int32)) d_M_hangs_167 ki_1 ?_
                    refine J.icmp_ne 180 d_M_hangs_168 rfl (fun c => ?_) (fun c => ?_)
                    · rw [if_neg c] at h
                      refine J.iinc 6 (v := (1 : Int32)) (lv := [(6, .int (v6 + (1 : Int32))), (5, .int (v5 ||| ((1 : Int32) <<< (v6 &&& 31)))), (3, .int (v3 ||| (0 : Int32))), (0, jr G 109), (1, .int v1), (2, .int v2), (4, .int v4)]) d_M_hangs_180 rfl ki_1 (by decide) rfl ?_
                      refine J.goto 37 d_M_hangs_183 rfl ?_
                      exact J.sub (ls' := [(0, jr G 109), (1, .int v1), (2, .int v2), (3, .int (v3 ||| (0 : Int32))), (4, .int v4), (5, .int (v5 ||| ((1 : Int32) <<< (v6 &&& 31)))), (6, .int (v6 + (1 : Int32)))]) [3, 4, 5, 2, 6, 1, 0] rfl (ih (v3 ||| (0 : Int32)) v4 (v5 ||| ((1 : Int32) <<< (v6 &&& 31))) (v6 + (1 : Int32)) m25 _ h)
                    · rw [if_pos c] at h
                      refine J.nop (pc' := 171) rfl ?_
                      refine J.iload 5 d_M_hangs_171 rfl ?_
                      refine J.iconst (v := (1 : Int32)) d_M_hangs_173 ki_1 ?_
                      refine J.iload 6 d_M_hangs_174 rfl ?_
                      refine J.ishl d_M_hangs_176 ?_
                      refine J.ior d_M_hangs_177 ?_
                      refine J.istore (lv := [(4, .int (v4 ||| ((1 : Int32) <<< (v6 &&& 31)))), (5, .int (v5 ||| ((1 : Int32) <<< (v6 &&& 31)))), (3, .int (v3 ||| (0 : Int32))), (0, jr G 109), (1, .int v1), (2, .int v2), (6, .int v6)]) d_M_hangs_178 (by decide) rfl ?_
                      refine J.iinc 6 (v := (1 : Int32)) (lv := [(6, .int (v6 + (1 : Int32))), (4, .int (v4 ||| ((1 : Int32) <<< (v6 &&& 31)))), (5, .int (v5 ||| ((1 : Int32) <<< (v6 &&& 31)))), (3, .int (v3 ||| (0 : Int32))), (0, jr G 109), (1, .int v1), (2, .int v2)]) d_M_hangs_180 rfl ki_1 (by decide) rfl ?_
                      refine J.goto 37 d_M_hangs_183 rfl ?_
                      exact J.sub (ls' := [(0, jr G 109), (1, .int v1), (2, .int v2), (3, .int (v3 ||| (0 : Int32))), (4, .int (v4 ||| ((1 : Int32) <<< (v6 &&& 31)))), (5, .int (v5 ||| ((1 : Int32) <<< (v6 &&& 31)))), (6, .int (v6 + (1 : Int32)))]) [4, 5, 6, 3, 1, 2, 0] rfl (ih (v3 ||| (0 : Int32)) (v4 ||| ((1 : Int32) <<< (v6 &&& 31))) (v5 ||| ((1 : Int32) <<< (v6 &&& 31))) (v6 + (1 : Int32)) m25 _ h)
                · rw [if_neg c] at h
                  refine J.nop (pc' := 128) rfl ?_
                  refine J.iload 5 d_M_hangs_128 rfl ?_
                  refine J.aload_n 2 d_M_hangs_130 rfl rfl ?_
                  refine J.getF (n := 125) hG d_M_hangs_131 fl_M_60 ck_109_38 rfl ?_
                  refine J.iload 6 d_M_hangs_134 rfl ?_
                  obtain ⟨x39, ex39, g, h⟩ := jld_some h
                  refine J.il hG d_M_hangs_136 g ex39 ?_
                  refine J.ishr d_M_hangs_137 ?_
                  refine J.iconst (v := (1 : Int32)) d_M_hangs_138 ki_1 ?_
                  refine J.iand d_M_hangs_139 ?_
                  refine J.nop (pc' := 140) rfl ?_
                  refine J.iconst (v := (1 : Int32)) d_M_hangs_140 ki_1 ?_
                  refine J.icmp_eq 171 d_M_hangs_141 rfl (fun c => ?_) (fun c => ?_)
                  · rw [if_pos c] at h
                    refine J.iload 5 d_M_hangs_171 rfl ?_
                    refine J.iconst (v := (1 : Int32)) d_M_hangs_173 ki_1 ?_
                    refine J.iload 6 d_M_hangs_174 rfl ?_
                    refine J.ishl d_M_hangs_176 ?_
                    refine J.ior d_M_hangs_177 ?_
                    refine J.istore (lv := [(4, .int (v4 ||| ((1 : Int32) <<< (v6 &&& 31)))), (5, .int (v5 ||| ((1 : Int32) <<< (v6 &&& 31)))), (3, .int (v3 ||| (0 : Int32))), (0, jr G 109), (1, .int v1), (2, .int v2), (6, .int v6)]) d_M_hangs_178 (by decide) rfl ?_
                    refine J.iinc 6 (v := (1 : Int32)) (lv := [(6, .int (v6 + (1 : Int32))), (4, .int (v4 ||| ((1 : Int32) <<< (v6 &&& 31)))), (5, .int (v5 ||| ((1 : Int32) <<< (v6 &&& 31)))), (3, .int (v3 ||| (0 : Int32))), (0, jr G 109), (1, .int v1), (2, .int v2)]) d_M_hangs_180 rfl ki_1 (by decide) rfl ?_
                    refine J.goto 37 d_M_hangs_183 rfl ?_
                    exact J.sub (ls' := [(0, jr G 109), (1, .int v1), (2, .int v2), (3, .int (v3 ||| (0 : Int32))), (4, .int (v4 ||| ((1 : Int32) <<< (v6 &&& 31)))), (5, .int (v5 ||| ((1 : Int32) <<< (v6 &&& 31)))), (6, .int (v6 + (1 : Int32)))]) [4, 5, 6, 3, 1, 2, 0] rfl (ih (v3 ||| (0 : Int32)) (v4 ||| ((1 : Int32) <<< (v6 &&& 31))) (v5 ||| ((1 : Int32) <<< (v6 &&& 31))) (v6 + (1 : Int32)) m25 _ h)
                  · rw [if_neg c] at h
                    refine J.aload_n 2 d_M_hangs_144 rfl rfl ?_
                    refine J.getF (n := 126) hG d_M_hangs_145 fl_M_63 ck_109_39 rfl ?_
                    refine J.iload 6 d_M_hangs_148 rfl ?_
                    obtain ⟨x40, ex40, g, h⟩ := jld_some h
                    refine J.il hG d_M_hangs_150 g ex40 ?_
                    refine J.iconst (v := (-1 : Int32)) d_M_hangs_151 ki_m1 ?_
                    refine J.icmp_eq 180 d_M_hangs_152 rfl (fun c => ?_) (fun c => ?_)
                    · rw [if_pos c] at h
                      refine J.iinc 6 (v := (1 : Int32)) (lv := [(6, .int (v6 + (1 : Int32))), (5, .int (v5 ||| ((1 : Int32) <<< (v6 &&& 31)))), (3, .int (v3 ||| (0 : Int32))), (0, jr G 109), (1, .int v1), (2, .int v2), (4, .int v4)]) d_M_hangs_180 rfl ki_1 (by decide) rfl ?_
                      refine J.goto 37 d_M_hangs_183 rfl ?_
                      exact J.sub (ls' := [(0, jr G 109), (1, .int v1), (2, .int v2), (3, .int (v3 ||| (0 : Int32))), (4, .int v4), (5, .int (v5 ||| ((1 : Int32) <<< (v6 &&& 31)))), (6, .int (v6 + (1 : Int32)))]) [3, 4, 5, 2, 6, 1, 0] rfl (ih (v3 ||| (0 : Int32)) v4 (v5 ||| ((1 : Int32) <<< (v6 &&& 31))) (v6 + (1 : Int32)) m25 _ h)
                    · rw [if_neg c] at h
                      refine J.nop (pc' := 155) rfl ?_
                      refine J.iload 5 d_M_hangs_155 rfl ?_
                      refine J.aload_n 2 d_M_hangs_157 rfl rfl ?_
                      refine J.getF (n := 126) hG d_M_hangs_158 fl_M_63 ck_109_39 rfl ?_
                      refine J.iload 6 d_M_hangs_161 rfl ?_
                      obtain ⟨x41, ex41, g, h⟩ := jld_some h
                      refine J.il hG d_M_hangs_163 g ex41 ?_
                      refine J.ishr d_M_hangs_164 ?_
                      refine J.iconst (v := (1 : Int32)) d_M_hangs_165 ki_1 ?_
                      refine J.iand d_M_hangs_166 ?_
                      refine J.nop (pc' := 167) rfl ?_
                      refine J.iconst (v := (1 : Int32)) d_M_hangs_167 ki_1 ?_
                      refine J.icmp_ne 180 d_M_hangs_168 rfl (fun c => ?_) (fun c => ?_)
                      · rw [if_neg c] at h
                        refine J.iinc 6 (v := (1 : Int32)) (lv := [(6, .int (v6 + (1 : Int32))), (5, .int (v5 ||| ((1 : Int32) <<< (v6 &&& 31)))), (3, .int (v3 ||| (0 : Int32))), (0, jr G 109), (1, .int v1), (2, .int v2), (4, .int v4)]) d_M_hangs_180 rfl ki_1 (by decide) rfl ?_
                        refine J.goto 37 d_M_hangs_183 rfl ?_
                        exact J.sub (ls' := [(0, jr G 109), (1, .int v1), (2, .int v2), (3, .int (v3 ||| (0 : Int32))), (4, .int v4), (5, .int (v5 ||| ((1 : Int32) <<< (v6 &&& 31)))), (6, .int (v6 + (1 : Int32)))]) [3, 4, 5, 2, 6, 1, 0] rfl (ih (v3 ||| (0 : Int32)) v4 (v5 ||| ((1 : Int32) <<< (v6 &&& 31))) (v6 + (1 : Int32)) m25 _ h)
                      · rw [if_pos c] at h
                        refine J.iload 5 d_M_hangs_171 rfl ?_
                        refine J.iconst (v := (1 : Int32)) d_M_hangs_173 ki_1 ?_
                        refine J.iload 6 d_M_hangs_174 rfl ?_
                        refine J.ishl d_M_hangs_176 ?_
                        refine J.ior d_M_hangs_177 ?_
                        refine J.istore (lv := [(4, .int (v4 ||| ((1 : Int32) <<< (v6 &&& 31)))), (5, .int (v5 ||| ((1 : Int32) <<< (v6 &&& 31)))), (3, .int (v3 ||| (0 : Int32))), (0, jr G 109), (1, .int v1), (2, .int v2), (6, .int v6)]) d_M_hangs_178 (by decide) rfl ?_
                        refine J.nop (pc' := 180) rfl ?_
                        refine J.iinc 6 (v := (1 : Int32)) (lv := [(6, .int (v6 + (1 : Int32))), (4, .int (v4 ||| ((1 : Int32) <<< (v6 &&& 31)))), (5, .int (v5 ||| ((1 : Int32) <<< (v6 &&& 31)))), (3, .int (v3 ||| (0 : Int32))), (0, jr G 109), (1, .int v1), (2, .int v2)]) d_M_hangs_180 rfl ki_1 (by decide) rfl ?_
                        refine J.goto 37 d_M_hangs_183 rfl ?_
                        exact J.sub (ls' := [(0, jr G 109), (1, .int v1), (2, .int v2), (3, .int (v3 ||| (0 : Int32))), (4, .int (v4 ||| ((1 : Int32) <<< (v6 &&& 31)))), (5, .int (v5 ||| ((1 : Int32) <<< (v6 &&& 31)))), (6, .int (v6 + (1 : Int32)))]) [4, 5, 6, 3, 1, 2, 0] rfl (ih (v3 ||| (0 : Int32)) (v4 ||| ((1 : Int32) <<< (v6 &&& 31))) (v5 ||| ((1 : Int32) <<< (v6 &&& 31))) (v6 + (1 : Int32)) m25 _ h)
        · rw [if_pos c] at h
          refine J.iconst (v := (1 : Int32)) d_M_hangs_69 ki_1 ?_
          refine J.goto 74 d_M_hangs_70 rfl ?_
          refine J.ior d_M_hangs_74 ?_
          refine J.istore_n (lv := [(3, .int (v3 ||| (1 : Int32))), (0, jr G 109), (1, .int v1), (2, .int v2), (4, .int v4), (5, .int v5), (6, .int v6)]) d_M_hangs_75 rfl (by decide) rfl ?_
          refine J.aload_n 1 d_M_hangs_76 rfl rfl ?_
          refine J.iload_n 2 d_M_hangs_77 rfl rfl ?_
          refine J.iload 6 d_M_hangs_78 rfl ?_
          obtain ⟨x42, m43, zm43, h⟩ := jbd_some h
          refine J.cVi Y_M_isBefore (As := [.int v1, .int v6]) (rest := []) hG d_M_hangs_80 mi_M_isBefore mv_M_isBefore lk_M_350 ⟨rfl, rfl, Nat.le_of_ble_eq_true rfl⟩ cq_109 cc_10 (c_M_isBefore hG zm43) rfl (Nat.le_trans jcN (Nat.le_of_ble_eq_true rfl)) ?_
          refine J.if_eq 95 d_M_hangs_83 rfl (fun c => ?_) (fun c => ?_)
          · rw [if_pos c] at h
            refine J.aload_n 1 d_M_hangs_95 rfl rfl ?_
            refine J.getF (n := 125) hG d_M_hangs_96 fl_M_60 ck_109_38 rfl ?_
            refine J.iload 6 d_M_hangs_99 rfl ?_
            obtain ⟨x44, ex44, g, h⟩ := jld_some h
            refine J.il hG d_M_hangs_101 g ex44 ?_
            refine J.iload_n 2 d_M_hangs_102 rfl rfl ?_
            refine J.icmp_eq 171 d_M_hangs_103 rfl (fun c => ?_) (fun c => ?_)
            · rw [if_pos c] at h
              refine J.iload 4 d_M_hangs_171 rfl ?_
              refine J.iconst (v := (1 : Int32)) d_M_hangs_173 ki_1 ?_
              refine J.iload 6 d_M_hangs_174 rfl ?_
              refine J.ishl d_M_hangs_176 ?_
              refine J.ior d_M_hangs_177 ?_
              refine J.istore (lv := [(4, .int (v4 ||| ((1 : Int32) <<< (v6 &&& 31)))), (3, .int (v3 ||| (1 : Int32))), (0, jr G 109), (1, .int v1), (2, .int v2), (5, .int v5), (6, .int v6)]) d_M_hangs_178 (by decide) rfl ?_
              refine J.iinc 6 (v := (1 : Int32)) (lv := [(6, .int (v6 + (1 : Int32))), (4, .int (v4 ||| ((1 : Int32) <<< (v6 &&& 31)))), (3, .int (v3 ||| (1 : Int32))), (0, jr G 109), (1, .int v1), (2, .int v2), (5, .int v5)]) d_M_hangs_180 rfl ki_1 (by decide) rfl ?_
              refine J.goto 37 d_M_hangs_183 rfl ?_
              exact J.sub (ls' := [(0, jr G 109), (1, .int v1), (2, .int v2), (3, .int (v3 ||| (1 : Int32))), (4, .int (v4 ||| ((1 : Int32) <<< (v6 &&& 31)))), (5, .int v5), (6, .int (v6 + (1 : Int32)))]) [3, 4, 5, 2, 1, 6, 0] rfl (ih (v3 ||| (1 : Int32)) (v4 ||| ((1 : Int32) <<< (v6 &&& 31))) v5 (v6 + (1 : Int32)) m43 _ h)
            · rw [if_neg c] at h
              refine J.aload_n 1 d_M_hangs_106 rfl rfl ?_
              refine J.getF (n := 126) hG d_M_hangs_107 fl_M_63 ck_109_39 rfl ?_
              refine J.nop (pc' := 110) rfl ?_
              refine J.iload 6 d_M_hangs_110 rfl ?_
              obtain ⟨x45, ex45, g, h⟩ := jld_some h
              refine J.il hG d_M_hangs_112 g ex45 ?_
              refine J.iload_n 2 d_M_hangs_113 rfl rfl ?_
              refine J.icmp_eq 171 d_M_hangs_114 rfl (fun c => ?_) (fun c => ?_)
              · rw [if_pos c] at h
                refine J.iload 4 d_M_hangs_171 rfl ?_
                refine J.iconst (v := (1 : Int32)) d_M_hangs_173 ki_1 ?_
                refine J.iload 6 d_M_hangs_174 rfl ?_
                refine J.ishl d_M_hangs_176 ?_
                refine J.ior d_M_hangs_177 ?_
                refine J.istore (lv := [(4, .int (v4 ||| ((1 : Int32) <<< (v6 &&& 31)))), (3, .int (v3 ||| (1 : Int32))), (0, jr G 109), (1, .int v1), (2, .int v2), (5, .int v5), (6, .int v6)]) d_M_hangs_178 (by decide) rfl ?_
                refine J.iinc 6 (v := (1 : Int32)) (lv := [(6, .int (v6 + (1 : Int32))), (4, .int (v4 ||| ((1 : Int32) <<< (v6 &&& 31)))), (3, .int (v3 ||| (1 : Int32))), (0, jr G 109), (1, .int v1), (2, .int v2), (5, .int v5)]) d_M_hangs_180 rfl ki_1 (by decide) rfl ?_
                refine J.goto 37 d_M_hangs_183 rfl ?_
                exact J.sub (ls' := [(0, jr G 109), (1, .int v1), (2, .int v2), (3, .int (v3 ||| (1 : Int32))), (4, .int (v4 ||| ((1 : Int32) <<< (v6 &&& 31)))), (5, .int v5), (6, .int (v6 + (1 : Int32)))]) [3, 4, 5, 2, 1, 6, 0] rfl (ih (v3 ||| (1 : Int32)) (v4 ||| ((1 : Int32) <<< (v6 &&& 31))) v5 (v6 + (1 : Int32)) m43 _ h)
              · rw [if_neg c] at h
                refine J.aload_n 1 d_M_hangs_117 rfl rfl ?_
                refine J.getF (n := 125) hG d_M_hangs_118 fl_M_60 ck_109_38 rfl ?_
                refine J.iload 6 d_M_hangs_121 rfl ?_
                obtain ⟨x46, ex46, g, h⟩ := jld_some h
                refine J.il hG d_M_hangs_123 g ex46 ?_
                refine J.nop (pc' := 124) rfl ?_
                refine J.iconst (v := (-1 : Int32)) d_M_hangs_124 ki_m1 ?_
                refine J.icmp_eq 144 d_M_hangs_125 rfl (fun c => ?_) (fun c => ?_)
                · rw [if_pos c] at h
                  refine J.aload_n 1 d_M_hangs_144 rfl rfl ?_
                  refine J.getF (n := 126) hG d_M_hangs_145 fl_M_63 ck_109_39 rfl ?_
                  refine J.iload 6 d_M_hangs_148 rfl ?_
                  obtain ⟨x47, ex47, g, h⟩ := jld_some h
                  refine J.il hG d_M_hangs_150 g ex47 ?_
                  refine J.iconst (v := (-1 : Int32)) d_M_hangs_151 ki_m1 ?_
                  refine J.icmp_eq 180 d_M_hangs_152 rfl (fun c => ?_) (fun c => ?_)
                  · rw [if_pos c] at h
                    refine J.iinc 6 (v := (1 : Int32)) (lv := [(6, .int (v6 + (1 : Int32))), (3, .int (v3 ||| (1 : Int32))), (0, jr G 109), (1, .int v1), (2, .int v2), (4, .int v4), (5, .int v5)]) d_M_hangs_180 rfl ki_1 (by decide) rfl ?_
                    refine J.goto 37 d_M_hangs_183 rfl ?_
                    exact J.sub (ls' := [(0, jr G 109), (1, .int v1), (2, .int v2), (3, .int (v3 ||| (1 : Int32))), (4, .int v4), (5, .int v5), (6, .int (v6 + (1 : Int32)))]) [2, 3, 4, 1, 5, 6, 0] rfl (ih (v3 ||| (1 : Int32)) v4 v5 (v6 + (1 : Int32)) m43 _ h)
                  · rw [if_neg c] at h
                    refine J.iload 4 d_M_hangs_155 rfl ?_
                    refine J.aload_n 1 d_M_hangs_157 rfl rfl ?_
                    refine J.nop (pc' := 158) rfl ?_
                    refine J.getF (n := 126) hG d_M_hangs_158 fl_M_63 ck_109_39 rfl ?_
                    refine J.iload 6 d_M_hangs_161 rfl ?_
                    obtain ⟨x48, ex48, g, h⟩ := jld_some h
                    refine J.il hG d_M_hangs_163 g ex48 ?_
                    refine J.ishr d_M_hangs_164 ?_
                    refine J.iconst (v := (1 : Int32)) d_M_hangs_165 ki_1 ?_
                    refine J.iand d_M_hangs_166 ?_
                    refine J.iconst (v := (1 : Int32)) d_M_hangs_167 ki_1 ?_
                    refine J.icmp_ne 180 d_M_hangs_168 rfl (fun c => ?_) (fun c => ?_)
                    · rw [if_neg c] at h
                      refine J.iinc 6 (v := (1 : Int32)) (lv := [(6, .int (v6 + (1 : Int32))), (3, .int (v3 ||| (1 : Int32))), (0, jr G 109), (1, .int v1), (2, .int v2), (4, .int v4), (5, .int v5)]) d_M_hangs_180 rfl ki_1 (by decide) rfl ?_
                      refine J.goto 37 d_M_hangs_183 rfl ?_
                      exact J.sub (ls' := [(0, jr G 109), (1, .int v1), (2, .int v2), (3, .int (v3 ||| (1 : Int32))), (4, .int v4), (5, .int v5), (6, .int (v6 + (1 : Int32)))]) [2, 3, 4, 1, 5, 6, 0] rfl (ih (v3 ||| (1 : Int32)) v4 v5 (v6 + (1 : Int32)) m43 _ h)
                    · rw [if_pos c] at h
                      refine J.nop (pc' := 171) rfl ?_
                      refine J.iload 4 d_M_hangs_171 rfl ?_
                      refine J.iconst (v := (1 : Int32)) d_M_hangs_173 ki_1 ?_
                      refine J.iload 6 d_M_hangs_174 rfl ?_
                      refine J.ishl d_M_hangs_176 ?_
                      refine J.ior d_M_hangs_177 ?_
                      refine J.istore (lv := [(4, .int (v4 ||| ((1 : Int32) <<< (v6 &&& 31)))), (3, .int (v3 ||| (1 : Int32))), (0, jr G 109), (1, .int v1), (2, .int v2), (5, .int v5), (6, .int v6)]) d_M_hangs_178 (by decide) rfl ?_
                      refine J.iinc 6 (v := (1 : Int32)) (lv := [(6, .int (v6 + (1 : Int32))), (4, .int (v4 ||| ((1 : Int32) <<< (v6 &&& 31)))), (3, .int (v3 ||| (1 : Int32))), (0, jr G 109), (1, .int v1), (2, .int v2), (5, .int v5)]) d_M_hangs_180 rfl ki_1 (by decide) rfl ?_
                      refine J.goto 37 d_M_hangs_183 rfl ?_
                      exact J.sub (ls' := [(0, jr G 109), (1, .int v1), (2, .int v2), (3, .int (v3 ||| (1 : Int32))), (4, .int (v4 ||| ((1 : Int32) <<< (v6 &&& 31)))), (5, .int v5), (6, .int (v6 + (1 : Int32)))]) [3, 4, 5, 2, 1, 6, 0] rfl (ih (v3 ||| (1 : Int32)) (v4 ||| ((1 : Int32) <<< (v6 &&& 31))) v5 (v6 + (1 : Int32)) m43 _ h)
                · rw [if_neg c] at h
                  refine J.iload 4 d_M_hangs_128 rfl ?_
                  refine J.aload_n 1 d_M_hangs_130 rfl rfl ?_
                  refine J.getF (n := 125) hG d_M_hangs_131 fl_M_60 ck_109_38 rfl ?_
                  refine J.iload 6 d_M_hangs_134 rfl ?_
                  obtain ⟨x49, ex49, g, h⟩ := jld_some h
                  refine J.il hG d_M_hangs_136 g ex49 ?_
                  refine J.ishr d_M_hangs_137 ?_
                  refine J.nop (pc' := 138) rfl ?_
                  refine J.iconst (v := (1 : Int32)) d_M_hangs_138 ki_1 ?_
                  refine J.iand d_M_hangs_139 ?_
                  refine J.iconst (v := (1 : Int32)) d_M_hangs_140 ki_1 ?_
                  refine J.icmp_eq 171 d_M_hangs_141 rfl (fun c => ?_) (fun c => ?_)
                  · rw [if_pos c] at h
                    refine J.iload 4 d_M_hangs_171 rfl ?_
                    refine J.iconst (v := (1 : Int32)) d_M_hangs_173 ki_1 ?_
                    refine J.iload 6 d_M_hangs_174 rfl ?_
                    refine J.ishl d_M_hangs_176 ?_
                    refine J.ior d_M_hangs_177 ?_
                    refine J.istore (lv := [(4, .int (v4 ||| ((1 : Int32) <<< (v6 &&& 31)))), (3, .int (v3 ||| (1 : Int32))), (0, jr G 109), (1, .int v1), (2, .int v2), (5, .int v5), (6, .int v6)]) d_M_hangs_178 (by decide) rfl ?_
                    refine J.iinc 6 (v := (1 : Int32)) (lv := [(6, .int (v6 + (1 : Int32))), (4, .int (v4 ||| ((1 : Int32) <<< (v6 &&& 31)))), (3, .int (v3 ||| (1 : Int32))), (0, jr G 109), (1, .int v1), (2, .int v2), (5, .int v5)]) d_M_hangs_180 rfl ki_1 (by decide) rfl ?_
                    refine J.goto 37 d_M_hangs_183 rfl ?_
                    exact J.sub (ls' := [(0, jr G 109), (1, .int v1), (2, .int v2), (3, .int (v3 ||| (1 : Int32))), (4, .int (v4 ||| ((1 : Int32) <<< (v6 &&& 31)))), (5, .int v5), (6, .int (v6 + (1 : Int32)))]) [3, 4, 5, 2, 1, 6, 0] rfl (ih (v3 ||| (1 : Int32)) (v4 ||| ((1 : Int32) <<< (v6 &&& 31))) v5 (v6 + (1 : Int32)) m43 _ h)
                  · rw [if_neg c] at h
                    refine J.aload_n 1 d_M_hangs_144 rfl rfl ?_
                    refine J.getF (n := 126) hG d_M_hangs_145 fl_M_63 ck_109_39 rfl ?_
                    refine J.iload 6 d_M_hangs_148 rfl ?_
                    obtain ⟨x50, ex50, g, h⟩ := jld_some h
                    refine J.il hG d_M_hangs_150 g ex50 ?_
                    refine J.nop (pc' := 151) rfl ?_
                    refine J.iconst (v := (-1 : Int32)) d_M_hangs_151 ki_m1 ?_
                    refine J.icmp_eq 180 d_M_hangs_152 rfl (fun c => ?_) (fun c => ?_)
                    · rw [if_pos c] at h
                      refine J.iinc 6 (v := (1 : Int32)) (lv := [(6, .int (v6 + (1 : Int32))), (3, .int (v3 ||| (1 : Int32))), (0, jr G 109), (1, .int v1), (2, .int v2), (4, .int v4), (5, .int v5)]) d_M_hangs_180 rfl ki_1 (by decide) rfl ?_
                      refine J.goto 37 d_M_hangs_183 rfl ?_
                      exact J.sub (ls' := [(0, jr G 109), (1, .int v1), (2, .int v2), (3, .int (v3 ||| (1 : Int32))), (4, .int v4), (5, .int v5), (6, .int (v6 + (1 : Int32)))]) [2, 3, 4, 1, 5, 6, 0] rfl (ih (v3 ||| (1 : Int32)) v4 v5 (v6 + (1 : Int32)) m43 _ h)
                    · rw [if_neg c] at h
                      refine J.iload 4 d_M_hangs_155 rfl ?_
                      refine J.aload_n 1 d_M_hangs_157 rfl rfl ?_
                      refine J.getF (n := 126) hG d_M_hangs_158 fl_M_63 ck_109_39 rfl ?_
                      refine J.iload 6 d_M_hangs_161 rfl ?_
                      obtain ⟨x51, ex51, g, h⟩ := jld_some h
                      refine J.il hG d_M_hangs_163 g ex51 ?_
                      refine J.ishr d_M_hangs_164 ?_
                      refine J.nop (pc' := 165) rfl ?_
                      refine J.iconst (v := (1 : Int32)) d_M_hangs_165 ki_1 ?_
                      refine J.iand d_M_hangs_166 ?_
                      refine J.iconst (v := (1 : Int32)) d_M_hangs_167 ki_1 ?_
                      refine J.icmp_ne 180 d_M_hangs_168 rfl (fun c => ?_) (fun c => ?_)
                      · rw [if_neg c] at h
                        refine J.iinc 6 (v := (1 : Int32)) (lv := [(6, .int (v6 + (1 : Int32))), (3, .int (v3 ||| (1 : Int32))), (0, jr G 109), (1, .int v1), (2, .int v2), (4, .int v4), (5, .int v5)]) d_M_hangs_180 rfl ki_1 (by decide) rfl ?_
                        refine J.goto 37 d_M_hangs_183 rfl ?_
                        exact J.sub (ls' := [(0, jr G 109), (1, .int v1), (2, .int v2), (3, .int (v3 ||| (1 : Int32))), (4, .int v4), (5, .int v5), (6, .int (v6 + (1 : Int32)))]) [2, 3, 4, 1, 5, 6, 0] rfl (ih (v3 ||| (1 : Int32)) v4 v5 (v6 + (1 : Int32)) m43 _ h)
                      · rw [if_pos c] at h
                        refine J.iload 4 d_M_hangs_171 rfl ?_
                        refine J.iconst (v := (1 : Int32)) d_M_hangs_173 ki_1 ?_
                        refine J.iload 6 d_M_hangs_174 rfl ?_
                        refine J.ishl d_M_hangs_176 ?_
                        refine J.nop (pc' := 177) rfl ?_
                        refine J.ior d_M_hangs_177 ?_
                        refine J.istore (lv := [(4, .int (v4 ||| ((1 : Int32) <<< (v6 &&& 31)))), (3, .int (v3 ||| (1 : Int32))), (0, jr G 109), (1, .int v1), (2, .int v2), (5, .int v5), (6, .int v6)]) d_M_hangs_178 (by decide) rfl ?_
                        refine J.iinc 6 (v := (1 : Int32)) (lv := [(6, .int (v6 + (1 : Int32))), (4, .int (v4 ||| ((1 : Int32) <<< (v6 &&& 31)))), (3, .int (v3 ||| (1 : Int32))), (0, jr G 109), (1, .int v1), (2, .int v2), (5, .int v5)]) d_M_hangs_180 rfl ki_1 (by decide) rfl ?_
                        refine J.goto 37 d_M_hangs_183 rfl ?_
                        exact J.sub (ls' := [(0, jr G 109), (1, .int v1), (2, .int v2), (3, .int (v3 ||| (1 : Int32))), (4, .int (v4 ||| ((1 : Int32) <<< (v6 &&& 31)))), (5, .int v5), (6, .int (v6 + (1 : Int32)))]) [3, 4, 5, 2, 1, 6, 0] rfl (ih (v3 ||| (1 : Int32)) (v4 ||| ((1 : Int32) <<< (v6 &&& 31))) v5 (v6 + (1 : Int32)) m43 _ h)
          · rw [if_neg c] at h
            refine J.iload 5 d_M_hangs_86 rfl ?_
            refine J.nop (pc' := 88) rfl ?_
            refine J.iconst (v := (1 : Int32)) d_M_hangs_88 ki_1 ?_
            refine J.iload 6 d_M_hangs_89 rfl ?_
            refine J.ishl d_M_hangs_91 ?_
            refine J.ior d_M_hangs_92 ?_
            refine J.istore (lv := [(5, .int (v5 ||| ((1 : Int32) <<< (v6 &&& 31)))), (3, .int (v3 ||| (1 : Int32))), (0, jr G 109), (1, .int v1), (2, .int v2), (4, .int v4), (6, .int v6)]) d_M_hangs_93 (by decide) rfl ?_
            refine J.aload_n 2 d_M_hangs_95 rfl rfl ?_
            refine J.getF (n := 125) hG d_M_hangs_96 fl_M_60 ck_109_38 rfl ?_
            refine J.iload 6 d_M_hangs_99 rfl ?_
            refine J.nop (pc' := 101) rfl ?_
            obtain ⟨x52, ex52, g, h⟩ := jld_some h
            refine J.il hG d_M_hangs_101 g ex52 ?_
            refine J.iload_n 3 d_M_hangs_102 rfl rfl ?_
            refine J.icmp_eq 171 d_M_hangs_103 rfl (fun c => ?_) (fun c => ?_)
            · rw [if_pos c] at h
              refine J.iload 5 d_M_hangs_171 rfl ?_
              refine J.iconst (v := (1 : Int32)) d_M_hangs_173 ki_1 ?_
              refine J.iload 6 d_M_hangs_174 rfl ?_
              refine J.ishl d_M_hangs_176 ?_
              refine J.ior d_M_hangs_177 ?_
              refine J.istore (lv := [(4, .int (v4 ||| ((1 : Int32) <<< (v6 &&& 31)))), (5, .int (v5 ||| ((1 : Int32) <<< (v6 &&& 31)))), (3, .int (v3 ||| (1 : Int32))), (0, jr G 109), (1, .int v1), (2, .int v2), (6, .int v6)]) d_M_hangs_178 (by decide) rfl ?_
              refine J.iinc 6 (v := (1 : Int32)) (lv := [(6, .int (v6 + (1 : Int32))), (4, .int (v4 ||| ((1 : Int32) <<< (v6 &&& 31)))), (5, .int (v5 ||| ((1 : Int32) <<< (v6 &&& 31)))), (3, .int (v3 ||| (1 : Int32))), (0, jr G 109), (1, .int v1), (2, .int v2)]) d_M_hangs_180 rfl ki_1 (by decide) rfl ?_
              refine J.goto 37 d_M_hangs_183 rfl ?_
              exact J.sub (ls' := [(0, jr G 109), (1, .int v1), (2, .int v2), (3, .int (v3 ||| (1 : Int32))), (4, .int (v4 ||| ((1 : Int32) <<< (v6 &&& 31)))), (5, .int (v5 ||| ((1 : Int32) <<< (v6 &&& 31)))), (6, .int (v6 + (1 : Int32)))]) [4, 5, 6, 3, 1, 2, 0] rfl (ih (v3 ||| (1 : Int32)) (v4 ||| ((1 : Int32) <<< (v6 &&& 31))) (v5 ||| ((1 : Int32) <<< (v6 &&& 31))) (v6 + (1 : Int32)) m43 _ h)
            · rw [if_neg c] at h
              refine J.aload_n 2 d_M_hangs_106 rfl rfl ?_
              refine J.getF (n := 126) hG d_M_hangs_107 fl_M_63 ck_109_39 rfl ?_
              refine J.iload 6 d_M_hangs_110 rfl ?_
              obtain ⟨x53, ex53, g, h⟩ := jld_some h
              refine J.il hG d_M_hangs_112 g ex53 ?_
              refine J.iload_n 3 d_M_hangs_113 rfl rfl ?_
              refine J.nop (pc' := 114) rfl ?_
              refine J.icmp_eq 171 d_M_hangs_114 rfl (fun c => ?_) (fun c => ?_)
              · rw [if_pos c] at h
                refine J.iload 5 d_M_hangs_171 rfl ?_
                refine J.iconst (v := (1 : Int32)) d_M_hangs_173 ki_1 ?_
                refine J.iload 6 d_M_hangs_174 rfl ?_
                refine J.ishl d_M_hangs_176 ?_
                refine J.ior d_M_hangs_177 ?_
                refine J.istore (lv := [(4, .int (v4 ||| ((1 : Int32) <<< (v6 &&& 31)))), (5, .int (v5 ||| ((1 : Int32) <<< (v6 &&& 31)))), (3, .int (v3 ||| (1 : Int32))), (0, jr G 109), (1, .int v1), (2, .int v2), (6, .int v6)]) d_M_hangs_178 (by decide) rfl ?_
                refine J.iinc 6 (v := (1 : Int32)) (lv := [(6, .int (v6 + (1 : Int32))), (4, .int (v4 ||| ((1 : Int32) <<< (v6 &&& 31)))), (5, .int (v5 ||| ((1 : Int32) <<< (v6 &&& 31)))), (3, .int (v3 ||| (1 : Int32))), (0, jr G 109), (1, .int v1), (2, .int v2)]) d_M_hangs_180 rfl ki_1 (by decide) rfl ?_
                refine J.goto 37 d_M_hangs_183 rfl ?_
                exact J.sub (ls' := [(0, jr G 109), (1, .int v1), (2, .int v2), (3, .int (v3 ||| (1 : Int32))), (4, .int (v4 ||| ((1 : Int32) <<< (v6 &&& 31)))), (5, .int (v5 ||| ((1 : Int32) <<< (v6 &&& 31)))), (6, .int (v6 + (1 : Int32)))]) [4, 5, 6, 3, 1, 2, 0] rfl (ih (v3 ||| (1 : Int32)) (v4 ||| ((1 : Int32) <<< (v6 &&& 31))) (v5 ||| ((1 : Int32) <<< (v6 &&& 31))) (v6 + (1 : Int32)) m43 _ h)
              · rw [if_neg c] at h
                refine J.aload_n 2 d_M_hangs_117 rfl rfl ?_
                refine J.getF (n := 125) hG d_M_hangs_118 fl_M_60 ck_109_38 rfl ?_
                refine J.iload 6 d_M_hangs_121 rfl ?_
                obtain ⟨x54, ex54, g, h⟩ := jld_some h
                refine J.il hG d_M_hangs_123 g ex54 ?_
                refine J.iconst (v := (-1 : Int32)) d_M_hangs_124 ki_m1 ?_
                refine J.icmp_eq 144 d_M_hangs_125 rfl (fun c => ?_) (fun c => ?_)
                · rw [if_pos c] at h
                  refine J.aload_n 2 d_M_hangs_144 rfl rfl ?_
                  refine J.getF (n := 126) hG d_M_hangs_145 fl_M_63 ck_109_39 rfl ?_
                  refine J.iload 6 d_M_hangs_148 rfl ?_
                  obtain ⟨x55, ex55, g, h⟩ := jld_some h
                  refine J.il hG d_M_hangs_150 g ex55 ?_
                  refine J.iconst (v := (-1 : Int32)) d_M_hangs_151 ki_m1 ?_
                  refine J.icmp_eq 180 d_M_hangs_152 rfl (fun c => ?_) (fun c => ?_)
                  · rw [if_pos c] at h
                    refine J.iinc 6 (v := (1 : Int32)) (lv := [(6, .int (v6 + (1 : Int32))), (5, .int (v5 ||| ((1 : Int32) <<< (v6 &&& 31)))), (3, .int (v3 ||| (1 : Int32))), (0, jr G 109), (1, .int v1), (2, .int v2), (4, .int v4)]) d_M_hangs_180 rfl ki_1 (by decide) rfl ?_
                    refine J.goto 37 d_M_hangs_183 rfl ?_
                    exact J.sub (ls' := [(0, jr G 109), (1, .int v1), (2, .int v2), (3, .int (v3 ||| (1 : Int32))), (4, .int v4), (5, .int (v5 ||| ((1 : Int32) <<< (v6 &&& 31)))), (6, .int (v6 + (1 : Int32)))]) [3, 4, 5, 2, 6, 1, 0] rfl (ih (v3 ||| (1 : Int32)) v4 (v5 ||| ((1 : Int32) <<< (v6 &&& 31))) (v6 + (1 : Int32)) m43 _ h)
                  · rw [if_neg c] at h
                    refine J.iload 5 d_M_hangs_155 rfl ?_
                    refine J.aload_n 2 d_M_hangs_157 rfl rfl ?_
                    refine J.nop (pc' := 158) rfl ?_
                    refine J.getF (n := 126) hG d_M_hangs_158 fl_M_63 ck_109_39 rfl ?_
                    refine J.iload 6 d_M_hangs_161 rfl ?_
                    obtain ⟨x56, ex56, g, h⟩ := jld_some h
                    refine J.il hG d_M_hangs_163 g ex56 ?_
                    refine J.ishr d_M_hangs_164 ?_
                    refine J.iconst (v := (1 : Int32)) d_M_hangs_165 ki_1 ?_
                    refine J.iand d_M_hangs_166 ?_
                    refine J.iconst (v := (1 : Int32)) d_M_hangs_167 ki_1 ?_
                    refine J.icmp_ne 180 d_M_hangs_168 rfl (fun c => ?_) (fun c => ?_)
                    · rw [if_neg c] at h
                      refine J.iinc 6 (v := (1 : Int32)) (lv := [(6, .int (v6 + (1 : Int32))), (5, .int (v5 ||| ((1 : Int32) <<< (v6 &&& 31)))), (3, .int (v3 ||| (1 : Int32))), (0, jr G 109), (1, .int v1), (2, .int v2), (4, .int v4)]) d_M_hangs_180 rfl ki_1 (by decide) rfl ?_
                      refine J.goto 37 d_M_hangs_183 rfl ?_
                      exact J.sub (ls' := [(0, jr G 109), (1, .int v1), (2, .int v2), (3, .int (v3 ||| (1 : Int32))), (4, .int v4), (5, .int (v5 ||| ((1 : Int32) <<< (v6 &&& 31)))), (6, .int (v6 + (1 : Int32)))]) [3, 4, 5, 2, 6, 1, 0] rfl (ih (v3 ||| (1 : Int32)) v4 (v5 ||| ((1 : Int32) <<< (v6 &&& 31))) (v6 + (1 : Int32)) m43 _ h)
                    · rw [if_pos c] at h
                      refine J.nop (pc' := 171) rfl ?_
                      refine J.iload 5 d_M_hangs_171 rfl ?_
                      refine J.iconst (v := (1 : Int32)) d_M_hangs_173 ki_1 ?_
                      refine J.iload 6 d_M_hangs_174 rfl ?_
                      refine J.ishl d_M_hangs_176 ?_
                      refine J.ior d_M_hangs_177 ?_
                      refine J.istore (lv := [(4, .int (v4 ||| ((1 : Int32) <<< (v6 &&& 31)))), (5, .int (v5 ||| ((1 : Int32) <<< (v6 &&& 31)))), (3, .int (v3 ||| (1 : Int32))), (0, jr G 109), (1, .int v1), (2, .int v2), (6, .int v6)]) d_M_hangs_178 (by decide) rfl ?_
                      refine J.iinc 6 (v := (1 : Int32)) (lv := [(6, .int (v6 + (1 : Int32))), (4, .int (v4 ||| ((1 : Int32) <<< (v6 &&& 31)))), (5, .int (v5 ||| ((1 : Int32) <<< (v6 &&& 31)))), (3, .int (v3 ||| (1 : Int32))), (0, jr G 109), (1, .int v1), (2, .int v2)]) d_M_hangs_180 rfl ki_1 (by decide) rfl ?_
                      refine J.goto 37 d_M_hangs_183 rfl ?_
                      exact J.sub (ls' := [(0, jr G 109), (1, .int v1), (2, .int v2), (3, .int (v3 ||| (1 : Int32))), (4, .int (v4 ||| ((1 : Int32) <<< (v6 &&& 31)))), (5, .int (v5 ||| ((1 : Int32) <<< (v6 &&& 31)))), (6, .int (v6 + (1 : Int32)))]) [4, 5, 6, 3, 1, 2, 0] rfl (ih (v3 ||| (1 : Int32)) (v4 ||| ((1 : Int32) <<< (v6 &&& 31))) (v5 ||| ((1 : Int32) <<< (v6 &&& 31))) (v6 + (1 : Int32)) m43 _ h)
                · rw [if_neg c] at h
                  refine J.iload 5 d_M_hangs_128 rfl ?_
                  refine J.nop (pc' := 130) rfl ?_
                  refine J.aload_n 2 d_M_hangs_130 rfl rfl ?_
                  refine J.getF (n := 125) hG d_M_hangs_131 fl_M_60 ck_109_38 rfl ?_
                  refine J.iload 6 d_M_hangs_134 rfl ?_
                  obtain ⟨x57, ex57, g, h⟩ := jld_some h
                  refine J.il hG d_M_hangs_136 g ex57 ?_
                  refine J.ishr d_M_hangs_137 ?_
                  refine J.iconst (v := (1 : Int32)) d_M_hangs_138 ki_1 ?_
                  refine J.iand d_M_hangs_139 ?_
                  refine J.iconst (v := (1 : Int32)) d_M_hangs_140 ki_1 ?_
                  refine J.nop (pc' := 141) rfl ?_
                  refine J.icmp_eq 171 d_M_hangs_141 rfl (fun c => ?_) (fun c => ?_)
                  · rw [if_pos c] at h
                    refine J.iload 5 d_M_hangs_171 rfl ?_
                    refine J.iconst (v := (1 : Int32)) d_M_hangs_173 ki_1 ?_
                    refine J.iload 6 d_M_hangs_174 rfl ?_
                    refine J.ishl d_M_hangs_176 ?_
                    refine J.ior d_M_hangs_177 ?_
                    refine J.istore (lv := [(4, .int (v4 ||| ((1 : Int32) <<< (v6 &&& 31)))), (5, .int (v5 ||| ((1 : Int32) <<< (v6 &&& 31)))), (3, .int (v3 ||| (1 : Int32))), (0, jr G 109), (1, .int v1), (2, .int v2), (6, .int v6)]) d_M_hangs_178 (by decide) rfl ?_
                    refine J.iinc 6 (v := (1 : Int32)) (lv := [(6, .int (v6 + (1 : Int32))), (4, .int (v4 ||| ((1 : Int32) <<< (v6 &&& 31)))), (5, .int (v5 ||| ((1 : Int32) <<< (v6 &&& 31)))), (3, .int (v3 ||| (1 : Int32))), (0, jr G 109), (1, .int v1), (2, .int v2)]) d_M_hangs_180 rfl ki_1 (by decide) rfl ?_
                    refine J.goto 37 d_M_hangs_183 rfl ?_
                    exact J.sub (ls' := [(0, jr G 109), (1, .int v1), (2, .int v2), (3, .int (v3 ||| (1 : Int32))), (4, .int (v4 ||| ((1 : Int32) <<< (v6 &&& 31)))), (5, .int (v5 ||| ((1 : Int32) <<< (v6 &&& 31)))), (6, .int (v6 + (1 : Int32)))]) [4, 5, 6, 3, 1, 2, 0] rfl (ih (v3 ||| (1 : Int32)) (v4 ||| ((1 : Int32) <<< (v6 &&& 31))) (v5 ||| ((1 : Int32) <<< (v6 &&& 31))) (v6 + (1 : Int32)) m43 _ h)
                  · rw [if_neg c] at h
                    refine J.aload_n 2 d_M_hangs_144 rfl rfl ?_
                    refine J.getF (n := 126) hG d_M_hangs_145 fl_M_63 ck_109_39 rfl ?_
                    refine J.iload 6 d_M_hangs_148 rfl ?_
                    obtain ⟨x58, ex58, g, h⟩ := jld_some h
                    refine J.il hG d_M_hangs_150 g ex58 ?_
                    refine J.iconst (v := (-1 : Int32)) d_M_hangs_151 ki_m1 ?_
                    refine J.icmp_eq 180 d_M_hangs_152 rfl (fun c => ?_) (fun c => ?_)
                    · rw [if_pos c] at h
                      refine J.iinc 6 (v := (1 : Int32)) (lv := [(6, .int (v6 + (1 : Int32))), (5, .int (v5 ||| ((1 : Int32) <<< (v6 &&& 31)))), (3, .int (v3 ||| (1 : Int32))), (0, jr G 109), (1, .int v1), (2, .int v2), (4, .int v4)]) d_M_hangs_180 rfl ki_1 (by decide) rfl ?_
                      refine J.goto 37 d_M_hangs_183 rfl ?_
                      exact J.sub (ls' := [(0, jr G 109), (1, .int v1), (2, .int v2), (3, .int (v3 ||| (1 : Int32))), (4, .int v4), (5, .int (v5 ||| ((1 : Int32) <<< (v6 &&& 31)))), (6, .int (v6 + (1 : Int32)))]) [3, 4, 5, 2, 6, 1, 0] rfl (ih (v3 ||| (1 : Int32)) v4 (v5 ||| ((1 : Int32) <<< (v6 &&& 31))) (v6 + (1 : Int32)) m43 _ h)
                    · rw [if_neg c] at h
                      refine J.iload 5 d_M_hangs_155 rfl ?_
                      refine J.nop (pc' := 157) rfl ?_
                      refine J.aload_n 2 d_M_hangs_157 rfl rfl ?_
                      refine J.getF (n := 126) hG d_M_hangs_158 fl_M_63 ck_109_39 rfl ?_
                      refine J.iload 6 d_M_hangs_161 rfl ?_
                      obtain ⟨x59, ex59, g, h⟩ := jld_some h
                      refine J.il hG d_M_hangs_163 g ex59 ?_
                      refine J.ishr d_M_hangs_164 ?_
                      refine J.iconst (v := (1 : Int32)) d_M_hangs_165 ki_1 ?_
                      refine J.iand d_M_hangs_166 ?_
                      refine J.iconst (v := (1 : Int32)) d_M_hangs_167 ki_1 ?_
                      refine J.nop (pc' := 168) rfl ?_
                      refine J.icmp_ne 180 d_M_hangs_168 rfl (fun c => ?_) (fun c => ?_)
                      · rw [if_neg c] at h
                        refine J.iinc 6 (v := (1 : Int32)) (lv := [(6, .int (v6 + (1 : Int32))), (5, .int (v5 ||| ((1 : Int32) <<< (v6 &&& 31)))), (3, .int (v3 ||| (1 : Int32))), (0, jr G 109), (1, .int v1), (2, .int v2), (4, .int v4)]) d_M_hangs_180 rfl ki_1 (by decide) rfl ?_
                        refine J.goto 37 d_M_hangs_183 rfl ?_
                        exact J.sub (ls' := [(0, jr G 109), (1, .int v1), (2, .int v2), (3, .int (v3 ||| (1 : Int32))), (4, .int v4), (5, .int (v5 ||| ((1 : Int32) <<< (v6 &&& 31)))), (6, .int (v6 + (1 : Int32)))]) [3, 4, 5, 2, 6, 1, 0] rfl (ih (v3 ||| (1 : Int32)) v4 (v5 ||| ((1 : Int32) <<< (v6 &&& 31))) (v6 + (1 : Int32)) m43 _ h)
                      · rw [if_pos c] at h
                        refine J.iload 5 d_M_hangs_171 rfl ?_
                        refine J.iconst (v := (1 : Int32)) d_M_hangs_173 ki_1 ?_
                        refine J.iload 6 d_M_hangs_174 rfl ?_
                        refine J.ishl d_M_hangs_176 ?_
                        refine J.ior d_M_hangs_177 ?_
                        refine J.istore (lv := [(4, .int (v4 ||| ((1 : Int32) <<< (v6 &&& 31)))), (5, .int (v5 ||| ((1 : Int32) <<< (v6 &&& 31)))), (3, .int (v3 ||| (1 : Int32))), (0, jr G 109), (1, .int v1), (2, .int v2), (6, .int v6)]) d_M_hangs_178 (by decide) rfl ?_
                        refine J.iinc 6 (v := (1 : Int32)) (lv := [(6, .int (v6 + (1 : Int32))), (4, .int (v4 ||| ((1 : Int32) <<< (v6 &&& 31)))), (5, .int (v5 ||| ((1 : Int32) <<< (v6 &&& 31)))), (3, .int (v3 ||| (1 : Int32))), (0, jr G 109), (1, .int v1), (2, .int v2)]) d_M_hangs_180 rfl ki_1 (by decide) rfl ?_
                        refine J.nop (pc' := 183) rfl ?_
                        refine J.goto 37 d_M_hangs_183 rfl ?_
                        exact J.sub (ls' := [(0, jr G 109), (1, .int v1), (2, .int v2), (3, .int (v3 ||| (1 : Int32))), (4, .int (v4 ||| ((1 : Int32) <<< (v6 &&& 31)))), (5, .int (v5 ||| ((1 : Int32) <<< (v6 &&& 31)))), (6, .int (v6 + (1 : Int32)))]) [4, 5, 6, 3, 1, 2, 0] rfl (ih (v3 ||| (1 : Int32)) (v4 ||| ((1 : Int32) <<< (v6 &&& 31))) (v5 ||| ((1 : Int32) <<< (v6 &&& 31))) (v6 + (1 : Int32)) m43 _ h)
theorem c_M_hangs {G : jG} (hG : jFul G) {v1 : Int32} {v2 : Int32} {m : jMem} {r : (Int32 × jMem)} (h : f_M_hangs v1 v2 m = some r) : jCt G Y_M_hangs [jr G 109, .int v1, .int v2] m (jri r) := by
  refine jCt.ov (ls := [(0, jr G 109), (1, .int v1), (2, .int v2)]) mi_M_hangs (jAvR (jAvI (jAvI jAvN))) (Nat.le_of_ble_eq_true rfl) ?_ ⟨rfl, rfl⟩
  unfold f_M_hangs at h
  refine J.aload_n 0 d_M_hangs_0 rfl rfl ?_
  refine J.iconst (v := (0 : Int32)) d_M_hangs_1 ki_0 ?_
  obtain ⟨m1, hm1, h⟩ := jpu_some h
  refine J.putI hG d_M_hangs_2 fl_M_132 fp_10_0 ck_109_0 hm1 ?_
  refine J.aload_n 0 d_M_hangs_5 rfl rfl ?_
  refine J.iload_n 1 d_M_hangs_6 rfl rfl ?_
  obtain ⟨x2, m3, zm3, h⟩ := jbd_some h
  refine J.cVi Y_M_isLetter (As := [.int v1]) (rest := []) hG d_M_hangs_7 mi_M_isLetter mv_M_isLetter lk_M_309 ⟨rfl, rfl, Nat.le_of_ble_eq_true rfl⟩ cq_109 cc_10 (c_M_isLetter hG zm3) rfl (Nat.le_trans jcN (Nat.le_of_ble_eq_true rfl)) ?_
  refine J.if_eq 22 d_M_hangs_10 rfl (fun c => ?_) (fun c => ?_)
  · rw [if_pos c] at h
    refine J.iconst (v := (-1 : Int32)) d_M_hangs_22 ki_m1 ?_
    cases h
    exact J.iret d_M_hangs_23 rfl (vp_nar_int _) rfl
  · rw [if_neg c] at h
    refine J.iload_n 2 d_M_hangs_13 rfl rfl ?_
    refine J.nop (pc' := 14) rfl ?_
    refine J.if_lt 22 d_M_hangs_14 rfl (fun c => ?_) (fun c => ?_)
    · rw [if_pos c] at h
      refine J.iconst (v := (-1 : Int32)) d_M_hangs_22 ki_m1 ?_
      cases h
      exact J.iret d_M_hangs_23 rfl (vp_nar_int _) rfl
    · rw [if_neg c] at h
      refine J.iload_n 2 d_M_hangs_17 rfl rfl ?_
      refine J.iconst (v := (1 : Int32)) d_M_hangs_18 ki_1 ?_
      refine J.icmp_le 24 d_M_hangs_19 rfl (fun c => ?_) (fun c => ?_)
      · rw [if_pos c] at h
        refine J.iconst (v := (0 : Int32)) d_M_hangs_24 ki_0 ?_
        refine J.istore_n (lv := [(3, .int (0 : Int32)), (0, jr G 109), (1, .int v1), (2, .int v2)]) d_M_hangs_25 rfl (by decide) rfl ?_
        refine J.iconst (v := (0 : Int32)) d_M_hangs_26 ki_0 ?_
        refine J.istore (lv := [(4, .int (0 : Int32)), (3, .int (0 : Int32)), (0, jr G 109), (1, .int v1), (2, .int v2)]) d_M_hangs_27 (by decide) rfl ?_
        refine J.iconst (v := (0 : Int32)) d_M_hangs_29 ki_0 ?_
        refine J.istore (lv := [(5, .int (0 : Int32)), (4, .int (0 : Int32)), (3, .int (0 : Int32)), (0, jr G 109), (1, .int v1), (2, .int v2)]) d_M_hangs_30 (by decide) rfl ?_
        refine J.iload_n 4 d_M_hangs_32 rfl rfl ?_
        refine J.iconst (v := (1 : Int32)) d_M_hangs_33 ki_1 ?_
        refine J.nop (pc' := 34) rfl ?_
        refine J.iadd d_M_hangs_34 ?_
        refine J.istore (lv := [(6, .int (v1 + (1 : Int32))), (5, .int (0 : Int32)), (4, .int (0 : Int32)), (3, .int (0 : Int32)), (0, jr G 109), (1, .int v1), (2, .int v2)]) d_M_hangs_35 (by decide) rfl ?_
        refine J.sub (ls' := [(0, jr G 109), (1, .int v1), (2, .int v2), (3, .int (0 : Int32)), (4, .int (0 : Int32)), (5, .int (0 : Int32)), (6, .int (v1 + (1 : Int32)))]) [4, 5, 6, 3, 2, 1, 0] rfl ?_
        refine jlp_M_hangs_37 hG v1 v2 _ ?_ _ (0 : Int32) (0 : Int32) (0 : Int32) (v1 + (1 : Int32)) m3 _ h
        intro w61 w62 w63 m60 r h
        refine J.iload_n 1 d_M_hangs_186 rfl rfl ?_
        refine J.if_ne 194 d_M_hangs_187 rfl (fun c => ?_) (fun c => ?_)
        · rw [if_neg c] at h
          refine J.iload_n 0 d_M_hangs_194 rfl rfl ?_
          refine J.if_ne 203 d_M_hangs_195 rfl (fun c => ?_) (fun c => ?_)
          · rw [if_neg c] at h
            refine J.iload 3 d_M_hangs_203 rfl ?_
            cases h
            exact J.iret d_M_hangs_205 rfl (vp_nar_int _) rfl
          · rw [if_pos c] at h
            refine J.iload 2 d_M_hangs_198 rfl ?_
            refine J.goto 205 d_M_hangs_200 rfl ?_
            cases h
            exact J.iret d_M_hangs_205 rfl (vp_nar_int _) rfl
        · rw [if_pos c] at h
          refine J.iconst (v := (-1 : Int32)) d_M_hangs_190 ki_m1 ?_
          refine J.goto 205 d_M_hangs_191 rfl ?_
          cases h
          exact J.iret d_M_hangs_205 rfl (vp_nar_int _) rfl
      · rw [if_neg c] at h
        refine J.iconst (v := (-1 : Int32)) d_M_hangs_22 ki_m1 ?_
        cases h
        exact J.iret d_M_hangs_23 rfl (vp_nar_int _) rfl

def lp_M_count_116 (k137 : Int32 → jMem → Option (Int32 × jMem)) : Nat → Int32 → Int32 → jMem → Option (Int32 × jMem)
  | 0, _, _, _ => none
  | n + 1, v2, v3, m =>
    if (6 : Int32) ≤ v3 then
      k137 v2 m
    else
      jld 1 m 138 v3 fun x2 =>
      lp_M_count_116 k137 n (v2 + x2) (v3 + (1 : Int32)) m
def lp_M_count_81 (k112 : Int32 → jMem → Option (Int32 × jMem)) : Nat → Int32 → Int32 → jMem → Option (Int32 × jMem)
  | 0, _, _, _ => none
  | n + 1, v2, v3, m =>
    if (m 109 44) ≤ v3 then
      k112 v2 m
    else
      jld 1 m 134 v3 fun x5 =>
      if x5 = 0 then
        lp_M_count_81 k112 n (v2 + (1 : Int32)) (v3 + (1 : Int32)) m
      else
        lp_M_count_81 k112 n (v2 + (0 : Int32)) (v3 + (1 : Int32)) m
def f_M_count (v1 : Int32) (m : jMem) : Option (Int32 × jMem) :=
  jpu m 109 0 (0 : Int32) fun m1 =>
  if v1 = (0 : Int32) then
    some ((m1 109 31), m1)
  else
    if v1 = (1 : Int32) then
      some ((m1 109 33), m1)
    else
      if v1 = (2 : Int32) then
        some ((m1 109 44), m1)
      else
        if v1 = (3 : Int32) then
          lp_M_count_81 (fun w7 m6 =>
            some (w7, m6)) 5000 (0 : Int32) (0 : Int32) m1
        else
          if v1 = (4 : Int32) then
            lp_M_count_116 (fun w4 m3 =>
              some (w4, m3)) 5000 (0 : Int32) (0 : Int32) m1
          else
            if v1 = (5 : Int32) then
              some ((m1 109 57), m1)
            else
              if v1 = (6 : Int32) then
                some (((m1 109 33) - (m1 109 43)), m1)
              else
                if v1 = (7 : Int32) then
                  some ((m1 109 11), m1)
                else
                  if v1 = (8 : Int32) then
                    some ((m1 109 6), m1)
                  else
                    if v1 = (9 : Int32) then
                      some ((m1 109 64), m1)
                    else
                      some ((-1 : Int32), m1)
theorem jlp_M_count_116 {G : jG} (hG : jFul G) (k137 : Int32 → jMem → Option (Int32 × jMem))
    (hk137 : ∀ (v2 : Int32) (m : jMem) (r : (Int32 × jMem)), k137 v2 m = some r → J G Y_M_count 137 [(2, .int v2)] [] m (jri r)) : ∀ (n : Nat) (v2 : Int32) (v3 : Int32) (m : jMem) (r : (Int32 × jMem)), lp_M_count_116 k137 n v2 v3 m = some r → J G Y_M_count 116 [(0, jr G 109), (2, .int v2), (3, .int v3)] [] m (jri r) := by
  intro n
  induction n with
  | zero => intro v2 v3 m r h; unfold lp_M_count_116 at h; cases h
  | succ n ih =>
    intro v2 v3 m r h
    unfold lp_M_count_116 at h
    refine J.iload_n 2 d_M_count_116 rfl rfl ?_
    refine J.bipush (v := (6 : Int32)) d_M_count_117 kb_6 ?_
    refine J.icmp_ge 137 d_M_count_119 rfl (fun c => ?_) (fun c => ?_)
    · rw [if_pos c] at h
      exact J.sub (ls' := [(2, .int v2)]) [1] rfl (hk137 v2 m _ h)
    · rw [if_neg c] at h
      refine J.iload_n 1 d_M_count_122 rfl rfl ?_
      refine J.aload_n 0 d_M_count_123 rfl rfl ?_
      refine J.getF (n := 138) hG d_M_count_124 fl_M_99 ck_109_56 rfl ?_
      refine J.iload_n 2 d_M_count_127 rfl rfl ?_
      obtain ⟨x2, ex2, g, h⟩ := jld_some h
      refine J.il hG d_M_count_128 g ex2 ?_
      refine J.nop (pc' := 129) rfl ?_
      refine J.iadd d_M_count_129 ?_
      refine J.istore_n (lv := [(2, .int (v2 + x2)), (0, jr G 109), (3, .int v3)]) d_M_count_130 rfl (by decide) rfl ?_
      refine J.iinc 2 (v := (1 : Int32)) (lv := [(3, .int (v3 + (1 : Int32))), (2, .int (v2 + x2)), (0, jr G 109)]) d_M_count_131 rfl ki_1 (by decide) rfl ?_
      refine J.goto 116 d_M_count_134 rfl ?_
      exact J.sub (ls' := [(0, jr G 109), (2, .int (v2 + x2)), (3, .int (v3 + (1 : Int32)))]) [2, 1, 0] rfl (ih (v2 + x2) (v3 + (1 : Int32)) m _ h)
theorem jlp_M_count_81 {G : jG} (hG : jFul G) (k112 : Int32 → jMem → Option (Int32 × jMem))
    (hk112 : ∀ (v2 : Int32) (m : jMem) (r : (Int32 × jMem)), k112 v2 m = some r → J G Y_M_count 112 [(2, .int v2)] [] m (jri r)) : ∀ (n : Nat) (v2 : Int32) (v3 : Int32) (m : jMem) (r : (Int32 × jMem)), lp_M_count_81 k112 n v2 v3 m = some r → J G Y_M_count 81 [(0, jr G 109), (2, .int v2), (3, .int v3)] [] m (jri r) := by
  intro n
  induction n with
  | zero => intro v2 v3 m r h; unfold lp_M_count_81 at h; cases h
  | succ n ih =>
    intro v2 v3 m r h
    unfold lp_M_count_81 at h
    refine J.iload_n 2 d_M_count_81 rfl rfl ?_
    refine J.aload_n 0 d_M_count_82 rfl rfl ?_
    refine J.getI hG d_M_count_83 fl_M_292 ck_109_44 ?_
    refine J.icmp_ge 112 d_M_count_86 rfl (fun c => ?_) (fun c => ?_)
    · rw [if_pos c] at h
      exact J.sub (ls' := [(2, .int v2)]) [1] rfl (hk112 v2 m _ h)
    · rw [if_neg c] at h
      refine J.iload_n 1 d_M_count_89 rfl rfl ?_
      refine J.aload_n 0 d_M_count_90 rfl rfl ?_
      refine J.getF (n := 134) hG d_M_count_91 fl_M_87 ck_109_49 rfl ?_
      refine J.iload_n 2 d_M_count_94 rfl rfl ?_
      refine J.nop (pc' := 95) rfl ?_
      obtain ⟨x5, ex5, g, h⟩ := jld_some h
      refine J.il hG d_M_count_95 g ex5 ?_
      refine J.if_ne 103 d_M_count_96 rfl (fun c => ?_) (fun c => ?_)
      · rw [if_neg c] at h
        refine J.iconst (v := (0 : Int32)) d_M_count_103 ki_0 ?_
        refine J.iadd d_M_count_104 ?_
        refine J.istore_n (lv := [(2, .int (v2 + (0 : Int32))), (0, jr G 109), (3, .int v3)]) d_M_count_105 rfl (by decide) rfl ?_
        refine J.iinc 2 (v := (1 : Int32)) (lv := [(3, .int (v3 + (1 : Int32))), (2, .int (v2 + (0 : Int32))), (0, jr G 109)]) d_M_count_106 rfl ki_1 (by decide) rfl ?_
        refine J.goto 81 d_M_count_109 rfl ?_
        exact J.sub (ls' := [(0, jr G 109), (2, .int (v2 + (0 : Int32))), (3, .int (v3 + (1 : Int32)))]) [2, 1, 0] rfl (ih (v2 + (0 : Int32)) (v3 + (1 : Int32)) m _ h)
      · rw [if_pos c] at h
        refine J.iconst (v := (1 : Int32)) d_M_count_99 ki_1 ?_
        refine J.goto 104 d_M_count_100 rfl ?_
        refine J.iadd d_M_count_104 ?_
        refine J.istore_n (lv := [(2, .int (v2 + (1 : Int32))), (0, jr G 109), (3, .int v3)]) d_M_count_105 rfl (by decide) rfl ?_
        refine J.iinc 2 (v := (1 : Int32)) (lv := [(3, .int (v3 + (1 : Int32))), (2, .int (v2 + (1 : Int32))), (0, jr G 109)]) d_M_count_106 rfl ki_1 (by decide) rfl ?_
        refine J.goto 81 d_M_count_109 rfl ?_
        exact J.sub (ls' := [(0, jr G 109), (2, .int (v2 + (1 : Int32))), (3, .int (v3 + (1 : Int32)))]) [2, 1, 0] rfl (ih (v2 + (1 : Int32)) (v3 + (1 : Int32)) m _ h)
theorem c_M_count {G : jG} (hG : jFul G) {v1 : Int32} {m : jMem} {r : (Int32 × jMem)} (h : f_M_count v1 m = some r) : jCt G Y_M_count [jr G 109, .int v1] m (jri r) := by
  refine jCt.ov (ls := [(0, jr G 109), (1, .int v1)]) mi_M_count (jAvR (jAvI jAvN)) (Nat.le_of_ble_eq_true rfl) ?_ ⟨rfl, rfl⟩
  unfold f_M_count at h
  refine J.aload_n 0 d_M_count_0 rfl rfl ?_
  refine J.iconst (v := (0 : Int32)) d_M_count_1 ki_0 ?_
  obtain ⟨m1, hm1, h⟩ := jpu_some h
  refine J.putI hG d_M_count_2 fl_M_132 fp_10_0 ck_109_0 hm1 ?_
  refine J.iconst (v := (0 : Int32)) d_M_count_5 ki_0 ?_
  refine J.istore_n (lv := [(2, .int (0 : Int32)), (0, jr G 109), (1, .int v1)]) d_M_count_6 rfl (by decide) rfl ?_
  refine J.iload_n 2 d_M_count_7 rfl rfl ?_
  by_cases c0 : v1 = (0 : Int32)
  · rw [if_pos c0] at h
    refine J.tsIn 64 d_M_count_8 c0 (by decide) (by decide) rfl (by decide) ?_
    refine J.aload_n 1 d_M_count_64 rfl rfl ?_
    refine J.getI hG d_M_count_65 fl_M_295 ck_109_31 ?_
    cases h
    exact J.iret d_M_count_68 rfl (vp_nar_int _) rfl
  · rw [if_neg c0] at h
    by_cases c1 : v1 = (1 : Int32)
    · rw [if_pos c1] at h
      refine J.tsIn 69 d_M_count_8 c1 (by decide) (by decide) rfl (by decide) ?_
      refine J.aload_n 1 d_M_count_69 rfl rfl ?_
      refine J.getI hG d_M_count_70 fl_M_277 ck_109_33 ?_
      cases h
      exact J.iret d_M_count_73 rfl (vp_nar_int _) rfl
    · rw [if_neg c1] at h
      by_cases c2 : v1 = (2 : Int32)
      · rw [if_pos c2] at h
        refine J.tsIn 74 d_M_count_8 c2 (by decide) (by decide) rfl (by decide) ?_
        refine J.aload_n 1 d_M_count_74 rfl rfl ?_
        refine J.getI hG d_M_count_75 fl_M_292 ck_109_44 ?_
        cases h
        exact J.iret d_M_count_78 rfl (vp_nar_int _) rfl
      · rw [if_neg c2] at h
        by_cases c3 : v1 = (3 : Int32)
        · rw [if_pos c3] at h
          refine J.tsIn 79 d_M_count_8 c3 (by decide) (by decide) rfl (by decide) ?_
          refine J.iconst (v := (0 : Int32)) d_M_count_79 ki_0 ?_
          refine J.istore_n (lv := [(3, .int (0 : Int32)), (2, .int (0 : Int32)), (0, jr G 109), (1, .int v1)]) d_M_count_80 rfl (by decide) rfl ?_
          refine J.sub (ls' := [(0, jr G 109), (2, .int (0 : Int32)), (3, .int (0 : Int32))]) [2, 1, 0] rfl ?_
          refine jlp_M_count_81 hG _ ?_ _ (0 : Int32) (0 : Int32) m1 _ h
          intro w7 m6 r h
          refine J.iload_n 0 d_M_count_112 rfl rfl ?_
          cases h
          exact J.iret d_M_count_113 rfl (vp_nar_int _) rfl
        · rw [if_neg c3] at h
          by_cases c4 : v1 = (4 : Int32)
          · rw [if_pos c4] at h
            refine J.tsIn 114 d_M_count_8 c4 (by decide) (by decide) rfl (by decide) ?_
            refine J.iconst (v := (0 : Int32)) d_M_count_114 ki_0 ?_
            refine J.istore_n (lv := [(3, .int (0 : Int32)), (2, .int (0 : Int32)), (0, jr G 109), (1, .int v1)]) d_M_count_115 rfl (by decide) rfl ?_
            refine J.sub (ls' := [(0, jr G 109), (2, .int (0 : Int32)), (3, .int (0 : Int32))]) [2, 1, 0] rfl ?_
            refine jlp_M_count_116 hG _ ?_ _ (0 : Int32) (0 : Int32) m1 _ h
            intro w4 m3 r h
            refine J.iload_n 0 d_M_count_137 rfl rfl ?_
            cases h
            exact J.iret d_M_count_138 rfl (vp_nar_int _) rfl
          · rw [if_neg c4] at h
            by_cases c5 : v1 = (5 : Int32)
            · rw [if_pos c5] at h
              refine J.tsIn 139 d_M_count_8 c5 (by decide) (by decide) rfl (by decide) ?_
              refine J.aload_n 1 d_M_count_139 rfl rfl ?_
              refine J.getI hG d_M_count_140 fl_M_330 ck_109_57 ?_
              cases h
              exact J.iret d_M_count_143 rfl (vp_nar_int _) rfl
            · rw [if_neg c5] at h
              by_cases c6 : v1 = (6 : Int32)
              · rw [if_pos c6] at h
                refine J.tsIn 144 d_M_count_8 c6 (by decide) (by decide) rfl (by decide) ?_
                refine J.aload_n 1 d_M_count_144 rfl rfl ?_
                refine J.getI hG d_M_count_145 fl_M_277 ck_109_33 ?_
                refine J.aload_n 1 d_M_count_148 rfl rfl ?_
                refine J.getI hG d_M_count_149 fl_M_399 ck_109_43 ?_
                refine J.isub d_M_count_152 ?_
                cases h
                exact J.iret d_M_count_153 rfl (vp_nar_int _) rfl
              · rw [if_neg c6] at h
                by_cases c7 : v1 = (7 : Int32)
                · rw [if_pos c7] at h
                  refine J.tsIn 154 d_M_count_8 c7 (by decide) (by decide) rfl (by decide) ?_
                  refine J.aload_n 1 d_M_count_154 rfl rfl ?_
                  refine J.getI hG d_M_count_155 fl_M_261 ck_109_11 ?_
                  cases h
                  exact J.iret d_M_count_158 rfl (vp_nar_int _) rfl
                · rw [if_neg c7] at h
                  by_cases c8 : v1 = (8 : Int32)
                  · rw [if_pos c8] at h
                    refine J.tsIn 159 d_M_count_8 c8 (by decide) (by decide) rfl (by decide) ?_
                    refine J.aload_n 1 d_M_count_159 rfl rfl ?_
                    refine J.getI hG d_M_count_160 fl_M_264 ck_109_6 ?_
                    cases h
                    exact J.iret d_M_count_163 rfl (vp_nar_int _) rfl
                  · rw [if_neg c8] at h
                    by_cases c9 : v1 = (9 : Int32)
                    · rw [if_pos c9] at h
                      refine J.tsIn 164 d_M_count_8 c9 (by decide) (by decide) rfl (by decide) ?_
                      refine J.aload_n 1 d_M_count_164 rfl rfl ?_
                      refine J.getI hG d_M_count_165 fl_M_419 ck_109_64 ?_
                      cases h
                      exact J.iret d_M_count_168 rfl (vp_nar_int _) rfl
                    · rw [if_neg c9] at h
                      refine J.tsOut 169 d_M_count_8 (jts0 (n := 10) (by decide) (fun k hk => match k, hk with | 0, _ => c0 | 1, _ => c1 | 2, _ => c2 | 3, _ => c3 | 4, _ => c4 | 5, _ => c5 | 6, _ => c6 | 7, _ => c7 | 8, _ => c8 | 9, _ => c9 | k + 10, hk => absurd hk (by omega))) rfl ?_
                      refine J.iconst (v := (-1 : Int32)) d_M_count_169 ki_m1 ?_
                      cases h
                      exact J.iret d_M_count_170 rfl (vp_nar_int _) rfl
