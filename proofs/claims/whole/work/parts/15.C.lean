def lp_C_putBytes_3 (v1 : Int32) (k49 : jMem → Option (Unit × jMem)) : Nat → Int32 → jMem → Option (Unit × jMem)
  | 0, _, _ => none
  | n + 1, v2, m =>
    if v2 < 0 then
      k49 m
    else
      if (400 : Int32) ≤ (m 1 1) then
        k49 m
      else
        jst 1 m 2 (m 1 1) ((v1 >>> (v2 &&& 31)) &&& (255 : Int32)) fun m1 =>
        jpu m1 1 1 ((m1 1 1) + (1 : Int32)) fun m2 =>
        lp_C_putBytes_3 v1 k49 n (v2 + (-8 : Int32)) m2
def f_C_putBytes (v1 : Int32) (m : jMem) : Option (Unit × jMem) :=
  lp_C_putBytes_3 v1 (fun m3 =>
    some ((), m3)) 5000 (24 : Int32) m
theorem jlp_C_putBytes_3 {G : jG} (hG : jFul G) (v1 : Int32) (k49 : jMem → Option (Unit × jMem))
    (hk49 : ∀ (m : jMem) (r : (Unit × jMem)), k49 m = some r → J G Y_C_putBytes 49 [] [] m (jrv r)) : ∀ (n : Nat) (v2 : Int32) (m : jMem) (r : (Unit × jMem)), lp_C_putBytes_3 v1 k49 n v2 m = some r → J G Y_C_putBytes 3 [(0, jr G 1), (1, .int v1), (2, .int v2)] [] m (jrv r) := by
  intro n
  induction n with
  | zero => intro v2 m r h; unfold lp_C_putBytes_3 at h; cases h
  | succ n ih =>
    intro v2 m r h
    unfold lp_C_putBytes_3 at h
    refine J.iload_n 2 d_C_putBytes_3 rfl rfl ?_
    refine J.if_lt 49 d_C_putBytes_4 rfl (fun c => ?_) (fun c => ?_)
    · rw [if_pos c] at h
      exact J.sub (ls' := []) [] rfl (hk49  m _ h)
    · rw [if_neg c] at h
      refine J.aload_n 0 d_C_putBytes_7 rfl rfl ?_
      refine J.getI hG d_C_putBytes_8 fl_C_81 ck_1_1 ?_
      refine J.sipush (v := (400 : Int32)) d_C_putBytes_11 ks_400 ?_
      refine J.icmp_ge 49 d_C_putBytes_14 rfl (fun c => ?_) (fun c => ?_)
      · rw [if_pos c] at h
        exact J.sub (ls' := []) [] rfl (hk49  m _ h)
      · rw [if_neg c] at h
        refine J.aload_n 0 d_C_putBytes_17 rfl rfl ?_
        refine J.getF (n := 2) hG d_C_putBytes_18 fl_C_9 ck_1_0 rfl ?_
        refine J.nop (pc' := 21) rfl ?_
        refine J.aload_n 0 d_C_putBytes_21 rfl rfl ?_
        refine J.getI hG d_C_putBytes_22 fl_C_81 ck_1_1 ?_
        refine J.iload_n 1 d_C_putBytes_25 rfl rfl ?_
        refine J.iload_n 2 d_C_putBytes_26 rfl rfl ?_
        refine J.ishr d_C_putBytes_27 ?_
        refine J.sipush (v := (255 : Int32)) d_C_putBytes_28 ks_255 ?_
        refine J.iand d_C_putBytes_31 ?_
        obtain ⟨m1, hm1, g, h⟩ := jst_some h
        refine J.is hG d_C_putBytes_32 g hm1 ?_
        refine J.nop (pc' := 33) rfl ?_
        refine J.aload_n 0 d_C_putBytes_33 rfl rfl ?_
        refine J.dup d_C_putBytes_34 (jr_cat _ _) ?_
        refine J.getI hG d_C_putBytes_35 fl_C_81 ck_1_1 ?_
        refine J.iconst (v := (1 : Int32)) d_C_putBytes_38 ki_1 ?_
        refine J.iadd d_C_putBytes_39 ?_
        obtain ⟨m2, hm2, h⟩ := jpu_some h
        refine J.putI hG d_C_putBytes_40 fl_C_81 fp_0_1 ck_1_1 hm2 ?_
        refine J.iinc 2 (v := (-8 : Int32)) (lv := [(2, .int (v2 + (-8 : Int32))), (0, jr G 1), (1, .int v1)]) d_C_putBytes_43 rfl ki_m8 (by decide) rfl ?_
        refine J.goto 3 d_C_putBytes_46 rfl ?_
        exact J.sub (ls' := [(0, jr G 1), (1, .int v1), (2, .int (v2 + (-8 : Int32)))]) [1, 2, 0] rfl (ih (v2 + (-8 : Int32)) m2 _ h)
theorem c_C_putBytes {G : jG} (hG : jFul G) {v1 : Int32} {m : jMem} {r : (Unit × jMem)} (h : f_C_putBytes v1 m = some r) : jCt G Y_C_putBytes [jr G 1, .int v1] m (jrv r) := by
  refine jCt.ov (ls := [(0, jr G 1), (1, .int v1)]) mi_C_putBytes (jAvR (jAvI jAvN)) (Nat.le_of_ble_eq_true rfl) ?_ ⟨rfl, rfl⟩
  unfold f_C_putBytes at h
  refine J.bipush (v := (24 : Int32)) d_C_putBytes_0 kb_24 ?_
  refine J.istore_n (lv := [(2, .int (24 : Int32)), (0, jr G 1), (1, .int v1)]) d_C_putBytes_2 rfl (by decide) rfl ?_
  refine J.sub (ls' := [(0, jr G 1), (1, .int v1), (2, .int (24 : Int32))]) [1, 2, 0] rfl ?_
  refine jlp_C_putBytes_3 hG v1 _ ?_ _ (24 : Int32) m _ h
  intro m3 r h
  cases h
  exact J.vret d_C_putBytes_49 rfl rfl

def f_C_feed (v1 : Int32) (v2 : Int32) (v3 : Int32) (v4 : Int32) (v5 : Int32) (m : jMem) : Option (Int32 × jMem) :=
  if (m 1 1) ≤ (380 : Int32) then
    jbd (f_C_putBytes v1 m) fun u1 m2 =>
    jbd (f_C_putBytes v2 m2) fun u3 m4 =>
    jbd (f_C_putBytes v3 m4) fun u5 m6 =>
    jbd (f_C_putBytes v4 m6) fun u7 m8 =>
    jbd (f_C_putBytes v5 m8) fun u9 m10 =>
    some ((m10 1 1), m10)
  else
    some ((-1 : Int32), m)
theorem c_C_feed {G : jG} (hG : jFul G) {v1 : Int32} {v2 : Int32} {v3 : Int32} {v4 : Int32} {v5 : Int32} {m : jMem} {r : (Int32 × jMem)} (h : f_C_feed v1 v2 v3 v4 v5 m = some r) : jCt G Y_C_feed [jr G 1, .int v1, .int v2, .int v3, .int v4, .int v5] m (jri r) := by
  refine jCt.ov (ls := [(0, jr G 1), (1, .int v1), (2, .int v2), (3, .int v3), (4, .int v4), (5, .int v5)]) mi_C_feed (jAvR (jAvI (jAvI (jAvI (jAvI (jAvI jAvN)))))) (Nat.le_of_ble_eq_true rfl) ?_ ⟨rfl, rfl⟩
  unfold f_C_feed at h
  refine J.aload_n 0 d_C_feed_0 rfl rfl ?_
  refine J.getI hG d_C_feed_1 fl_C_81 ck_1_1 ?_
  refine J.sipush (v := (380 : Int32)) d_C_feed_4 ks_380 ?_
  refine J.icmp_le 12 d_C_feed_7 rfl (fun c => ?_) (fun c => ?_)
  · rw [if_pos c] at h
    refine J.aload_n 0 d_C_feed_12 rfl rfl ?_
    refine J.iload_n 1 d_C_feed_13 rfl rfl ?_
    obtain ⟨u1, m2, zm2, h⟩ := jbd_some h
    refine J.cVv Y_C_putBytes (As := [.int v1]) (rest := []) hG d_C_feed_14 mi_C_putBytes mv_C_putBytes lk_C_85 ⟨rfl, rfl, Nat.le_of_ble_eq_true rfl⟩ cq_1 cc_0 (c_C_putBytes hG zm2) rfl (Nat.le_trans jcN (Nat.le_of_ble_eq_true rfl)) ?_
    refine J.aload_n 0 d_C_feed_17 rfl rfl ?_
    refine J.iload_n 2 d_C_feed_18 rfl rfl ?_
    obtain ⟨u3, m4, zm4, h⟩ := jbd_some h
    refine J.cVv Y_C_putBytes (As := [.int v2]) (rest := []) hG d_C_feed_19 mi_C_putBytes mv_C_putBytes lk_C_85 ⟨rfl, rfl, Nat.le_of_ble_eq_true rfl⟩ cq_1 cc_0 (c_C_putBytes hG zm4) rfl (Nat.le_trans jcN (Nat.le_of_ble_eq_true rfl)) ?_
    refine J.aload_n 0 d_C_feed_22 rfl rfl ?_
    refine J.iload_n 3 d_C_feed_23 rfl rfl ?_
    refine J.nop (pc' := 24) rfl ?_
    obtain ⟨u5, m6, zm6, h⟩ := jbd_some h
    refine J.cVv Y_C_putBytes (As := [.int v3]) (rest := []) hG d_C_feed_24 mi_C_putBytes mv_C_putBytes lk_C_85 ⟨rfl, rfl, Nat.le_of_ble_eq_true rfl⟩ cq_1 cc_0 (c_C_putBytes hG zm6) rfl (Nat.le_trans jcN (Nat.le_of_ble_eq_true rfl)) ?_
    refine J.aload_n 0 d_C_feed_27 rfl rfl ?_
    refine J.iload 4 d_C_feed_28 rfl ?_
    obtain ⟨u7, m8, zm8, h⟩ := jbd_some h
    refine J.cVv Y_C_putBytes (As := [.int v4]) (rest := []) hG d_C_feed_30 mi_C_putBytes mv_C_putBytes lk_C_85 ⟨rfl, rfl, Nat.le_of_ble_eq_true rfl⟩ cq_1 cc_0 (c_C_putBytes hG zm8) rfl (Nat.le_trans jcN (Nat.le_of_ble_eq_true rfl)) ?_
    refine J.aload_n 0 d_C_feed_33 rfl rfl ?_
    refine J.iload 5 d_C_feed_34 rfl ?_
    obtain ⟨u9, m10, zm10, h⟩ := jbd_some h
    refine J.cVv Y_C_putBytes (As := [.int v5]) (rest := []) hG d_C_feed_36 mi_C_putBytes mv_C_putBytes lk_C_85 ⟨rfl, rfl, Nat.le_of_ble_eq_true rfl⟩ cq_1 cc_0 (c_C_putBytes hG zm10) rfl (Nat.le_trans jcN (Nat.le_of_ble_eq_true rfl)) ?_
    refine J.aload_n 0 d_C_feed_39 rfl rfl ?_
    refine J.nop (pc' := 40) rfl ?_
    refine J.getI hG d_C_feed_40 fl_C_81 ck_1_1 ?_
    cases h
    exact J.iret d_C_feed_43 rfl (vp_nar_int _) rfl
  · rw [if_neg c] at h
    refine J.iconst (v := (-1 : Int32)) d_C_feed_10 ki_m1 ?_
    cases h
    exact J.iret d_C_feed_11 rfl (vp_nar_int _) rfl

def f_C_text (v1 : Int32) (m : jMem) : Option (Int32 × jMem) :=
  if v1 < 0 then
    some ((-2 : Int32), m)
  else
    if v1 ≤ (m 1 1) then
      jpu m 1 1 (0 : Int32) fun m1 =>
      jbd (f_R_takes v1 (m1 1 3).toNatClampNeg m1) fun x2 m3 =>
      if x2 = 0 then
        some ((-1 : Int32), m3)
      else
        jgd ((m3 1 3).toNatClampNeg < 2 ^ 31) (
          jpu m3 1 2 (Int32.ofNat (m3 1 3).toNatClampNeg) fun m4 =>
          jgd ((m3 1 2).toNatClampNeg < 2 ^ 31) (
            jpu m4 1 3 (Int32.ofNat (m3 1 2).toNatClampNeg) fun m6 =>
            jgd (jhok (m6 1 2).toNatClampNeg) (
              some ((m6 (m6 1 2).toNatClampNeg 2), m6))))
    else
      some ((-2 : Int32), m)
theorem c_C_text {G : jG} (hG : jFul G) {v1 : Int32} {m : jMem} {r : (Int32 × jMem)} (h : f_C_text v1 m = some r) : jCt G Y_C_text [jr G 1, .int v1] m (jri r) := by
  refine jCt.ov (ls := [(0, jr G 1), (1, .int v1)]) mi_C_text (jAvR (jAvI jAvN)) (Nat.le_of_ble_eq_true rfl) ?_ ⟨rfl, rfl⟩
  unfold f_C_text at h
  refine J.iload_n 1 d_C_text_0 rfl rfl ?_
  refine J.if_lt 12 d_C_text_1 rfl (fun c => ?_) (fun c => ?_)
  · rw [if_pos c] at h
    refine J.bipush (v := (-2 : Int32)) d_C_text_12 kb_m2 ?_
    cases h
    exact J.iret d_C_text_14 rfl (vp_nar_int _) rfl
  · rw [if_neg c] at h
    refine J.iload_n 1 d_C_text_4 rfl rfl ?_
    refine J.aload_n 0 d_C_text_5 rfl rfl ?_
    refine J.getI hG d_C_text_6 fl_C_81 ck_1_1 ?_
    refine J.icmp_le 15 d_C_text_9 rfl (fun c => ?_) (fun c => ?_)
    · rw [if_pos c] at h
      refine J.aload_n 0 d_C_text_15 rfl rfl ?_
      refine J.iconst (v := (0 : Int32)) d_C_text_16 ki_0 ?_
      obtain ⟨m1, hm1, h⟩ := jpu_some h
      refine J.putI hG d_C_text_17 fl_C_81 fp_0_1 ck_1_1 hm1 ?_
      refine J.aload_n 0 d_C_text_20 rfl rfl ?_
      refine J.getF (n := 21) hG d_C_text_21 fl_C_28 ck_1_4 rfl ?_
      refine J.iload_n 1 d_C_text_24 rfl rfl ?_
      refine J.aload_n 0 d_C_text_25 rfl rfl ?_
      refine J.getM hG d_C_text_26 fl_C_20 ck_1_3 ?_
      refine J.nop (pc' := 29) rfl ?_
      obtain ⟨x2, m3, zm3, h⟩ := jbd_some h
      refine J.cVi Y_R_takes (As := [.int v1, jr G (m1 1 3).toNatClampNeg]) (rest := []) hG d_C_text_29 mi_R_takes mv_R_takes lk_C_89 ⟨rfl, rfl, Nat.le_of_ble_eq_true rfl⟩ cq_21 cc_2 (c_R_takes hG zm3) rfl (Nat.le_trans jcN (Nat.le_of_ble_eq_true rfl)) ?_
      refine J.if_ne 37 d_C_text_32 rfl (fun c => ?_) (fun c => ?_)
      · rw [if_neg c] at h
        refine J.aload_n 0 d_C_text_37 rfl rfl ?_
        refine J.getM hG d_C_text_38 fl_C_16 ck_1_2 ?_
        refine J.astore_n (lv := [(2, jr G (m3 1 2).toNatClampNeg), (0, jr G 1), (1, .int v1)]) d_C_text_41 rfl (by decide) rfl ?_
        refine J.aload_n 1 d_C_text_42 rfl rfl ?_
        refine J.aload_n 1 d_C_text_43 rfl rfl ?_
        refine J.getM hG d_C_text_44 fl_C_20 ck_1_3 ?_
        obtain ⟨g5, h⟩ := jgd_some h
        obtain ⟨m4, hm4, h⟩ := jpu_some h
        refine J.putR hG d_C_text_47 fl_C_16 fp_0_2 ck_1_2 g5 hm4 ?_
        refine J.aload_n 1 d_C_text_50 rfl rfl ?_
        refine J.nop (pc' := 51) rfl ?_
        refine J.aload_n 0 d_C_text_51 rfl rfl ?_
        obtain ⟨g7, h⟩ := jgd_some h
        obtain ⟨m6, hm6, h⟩ := jpu_some h
        refine J.putR hG d_C_text_52 fl_C_20 fp_0_3 ck_1_3 g7 hm6 ?_
        refine J.aload_n 1 d_C_text_55 rfl rfl ?_
        refine J.getM hG d_C_text_56 fl_C_16 ck_1_2 ?_
        obtain ⟨g8, h⟩ := jgd_some h
        refine J.getI hG d_C_text_59 fl_C_93 (jhok_I g8 2 rfl) ?_
        cases h
        exact J.iret d_C_text_62 rfl (vp_nar_int _) rfl
      · rw [if_pos c] at h
        refine J.iconst (v := (-1 : Int32)) d_C_text_35 ki_m1 ?_
        cases h
        exact J.iret d_C_text_36 rfl (vp_nar_int _) rfl
    · rw [if_neg c] at h
      refine J.bipush (v := (-2 : Int32)) d_C_text_12 kb_m2 ?_
      cases h
      exact J.iret d_C_text_14 rfl (vp_nar_int _) rfl

def f_C_fault (v1 : Int32) (m : jMem) : Option (Int32 × jMem) :=
  if v1 = 0 then
    some ((m 21 4), m)
  else
    if v1 = (1 : Int32) then
      some ((m 21 5), m)
    else
      some ((-1 : Int32), m)
theorem c_C_fault {G : jG} (hG : jFul G) {v1 : Int32} {m : jMem} {r : (Int32 × jMem)} (h : f_C_fault v1 m = some r) : jCt G Y_C_fault [jr G 1, .int v1] m (jri r) := by
  refine jCt.ov (ls := [(0, jr G 1), (1, .int v1)]) mi_C_fault (jAvR (jAvI jAvN)) (Nat.le_of_ble_eq_true rfl) ?_ ⟨rfl, rfl⟩
  unfold f_C_fault at h
  refine J.iload_n 1 d_C_fault_0 rfl rfl ?_
  refine J.if_ne 12 d_C_fault_1 rfl (fun c => ?_) (fun c => ?_)
  · rw [if_neg c] at h
    refine J.iload_n 1 d_C_fault_12 rfl rfl ?_
    refine J.iconst (v := (1 : Int32)) d_C_fault_13 ki_1 ?_
    refine J.icmp_ne 27 d_C_fault_14 rfl (fun c => ?_) (fun c => ?_)
    · rw [if_neg c] at h
      refine J.iconst (v := (-1 : Int32)) d_C_fault_27 ki_m1 ?_
      cases h
      exact J.iret d_C_fault_28 rfl (vp_nar_int _) rfl
    · rw [if_pos c] at h
      refine J.aload_n 0 d_C_fault_17 rfl rfl ?_
      refine J.getF (n := 21) hG d_C_fault_18 fl_C_28 ck_1_4 rfl ?_
      refine J.getI hG d_C_fault_21 fl_C_99 ck_21_5 ?_
      refine J.goto 28 d_C_fault_24 rfl ?_
      cases h
      exact J.iret d_C_fault_28 rfl (vp_nar_int _) rfl
  · rw [if_pos c] at h
    refine J.aload_n 0 d_C_fault_4 rfl rfl ?_
    refine J.getF (n := 21) hG d_C_fault_5 fl_C_28 ck_1_4 rfl ?_
    refine J.getI hG d_C_fault_8 fl_C_96 ck_21_4 ?_
    cases h
    exact J.iret d_C_fault_11 rfl (vp_nar_int _) rfl

def f_C_way (v1 : Int32) (v2 : Int32) (v3 : Int32) (m : jMem) : Option (Int32 × jMem) :=
  jbd (f_C_isWriter v1 m) fun x1 m2 =>
  if x1 = 0 then
    some ((0 : Int32), m2)
  else
    jbd (f_C_isWriter v2 m2) fun x3 m4 =>
    if x3 = 0 then
      some ((0 : Int32), m4)
    else
      if v1 = v2 then
        some ((0 : Int32), m4)
      else
        if v3 < (1 : Int32) then
          some ((0 : Int32), m4)
        else
          if v3 ≤ (30 : Int32) then
            jbd (f_P_setWay v1 v2 v3 m4) fun u5 m6 =>
            some ((1 : Int32), m6)
          else
            some ((0 : Int32), m4)
theorem c_C_way {G : jG} (hG : jFul G) {v1 : Int32} {v2 : Int32} {v3 : Int32} {m : jMem} {r : (Int32 × jMem)} (h : f_C_way v1 v2 v3 m = some r) : jCt G Y_C_way [jr G 1, .int v1, .int v2, .int v3] m (jri r) := by
  refine jCt.ov (ls := [(0, jr G 1), (1, .int v1), (2, .int v2), (3, .int v3)]) mi_C_way (jAvR (jAvI (jAvI (jAvI jAvN)))) (Nat.le_of_ble_eq_true rfl) ?_ ⟨rfl, rfl⟩
  unfold f_C_way at h
  refine J.iload_n 1 d_C_way_0 rfl rfl ?_
  obtain ⟨x1, m2, zm2, h⟩ := jbd_some h
  refine J.cSi Y_C_isWriter (As := [.int v1]) (rest := []) d_C_way_1 mi_C_isWriter ms_C_isWriter lk_C_102 ⟨rfl, rfl, Nat.le_of_ble_eq_true rfl⟩ (c_C_isWriter hG zm2) rfl (Nat.le_trans jcN (Nat.le_of_ble_eq_true rfl)) ?_
  refine J.if_eq 30 d_C_way_4 rfl (fun c => ?_) (fun c => ?_)
  · rw [if_pos c] at h
    refine J.iconst (v := (0 : Int32)) d_C_way_30 ki_0 ?_
    cases h
    exact J.iret d_C_way_31 rfl rfl rfl
  · rw [if_neg c] at h
    refine J.iload_n 2 d_C_way_7 rfl rfl ?_
    obtain ⟨x3, m4, zm4, h⟩ := jbd_some h
    refine J.cSi Y_C_isWriter (As := [.int v2]) (rest := []) d_C_way_8 mi_C_isWriter ms_C_isWriter lk_C_102 ⟨rfl, rfl, Nat.le_of_ble_eq_true rfl⟩ (c_C_isWriter hG zm4) rfl (Nat.le_trans jcN (Nat.le_of_ble_eq_true rfl)) ?_
    refine J.if_eq 30 d_C_way_11 rfl (fun c => ?_) (fun c => ?_)
    · rw [if_pos c] at h
      refine J.iconst (v := (0 : Int32)) d_C_way_30 ki_0 ?_
      cases h
      exact J.iret d_C_way_31 rfl rfl rfl
    · rw [if_neg c] at h
      refine J.iload_n 1 d_C_way_14 rfl rfl ?_
      refine J.iload_n 2 d_C_way_15 rfl rfl ?_
      refine J.nop (pc' := 16) rfl ?_
      refine J.icmp_eq 30 d_C_way_16 rfl (fun c => ?_) (fun c => ?_)
      · rw [if_pos c] at h
        refine J.iconst (v := (0 : Int32)) d_C_way_30 ki_0 ?_
        cases h
        exact J.iret d_C_way_31 rfl rfl rfl
      · rw [if_neg c] at h
        refine J.iload_n 3 d_C_way_19 rfl rfl ?_
        refine J.iconst (v := (1 : Int32)) d_C_way_20 ki_1 ?_
        refine J.icmp_lt 30 d_C_way_21 rfl (fun c => ?_) (fun c => ?_)
        · rw [if_pos c] at h
          refine J.iconst (v := (0 : Int32)) d_C_way_30 ki_0 ?_
          cases h
          exact J.iret d_C_way_31 rfl rfl rfl
        · rw [if_neg c] at h
          refine J.iload_n 3 d_C_way_24 rfl rfl ?_
          refine J.bipush (v := (30 : Int32)) d_C_way_25 kb_30 ?_
          refine J.icmp_le 32 d_C_way_27 rfl (fun c => ?_) (fun c => ?_)
          · rw [if_pos c] at h
            refine J.aload_n 0 d_C_way_32 rfl rfl ?_
            refine J.getF (n := 45) hG d_C_way_33 fl_C_45 ck_1_8 rfl ?_
            refine J.iload_n 1 d_C_way_36 rfl rfl ?_
            refine J.iload_n 2 d_C_way_37 rfl rfl ?_
            refine J.iload_n 3 d_C_way_38 rfl rfl ?_
            obtain ⟨u5, m6, zm6, h⟩ := jbd_some h
            refine J.cVv Y_P_setWay (As := [.int v1, .int v2, .int v3]) (rest := []) hG d_C_way_39 mi_P_setWay mv_P_setWay lk_C_106 ⟨rfl, rfl, Nat.le_of_ble_eq_true rfl⟩ cq_45 cc_5 (c_P_setWay hG zm6) rfl (Nat.le_trans jcN (Nat.le_of_ble_eq_true rfl)) ?_
            refine J.iconst (v := (1 : Int32)) d_C_way_42 ki_1 ?_
            cases h
            exact J.iret d_C_way_43 rfl rfl rfl
          · rw [if_neg c] at h
            refine J.iconst (v := (0 : Int32)) d_C_way_30 ki_0 ?_
            refine J.nop (pc' := 31) rfl ?_
            cases h
            exact J.iret d_C_way_31 rfl rfl rfl

def f_C_knownTo (v1 : Int32) (m : jMem) : Option (Int32 × jMem) :=
  jbd (f_C_isWriter v1 m) fun x1 m2 =>
  if x1 = 0 then
    some ((0 : Int32), m2)
  else
    jld 1 m2 42 v1 fun x3 =>
    jld 1 m2 75 v1 fun x4 =>
    some ((x3 ||| x4), m2)
theorem c_C_knownTo {G : jG} (hG : jFul G) {v1 : Int32} {m : jMem} {r : (Int32 × jMem)} (h : f_C_knownTo v1 m = some r) : jCt G Y_C_knownTo [jr G 1, .int v1] m (jri r) := by
  refine jCt.ov (ls := [(0, jr G 1), (1, .int v1)]) mi_C_knownTo (jAvR (jAvI jAvN)) (Nat.le_of_ble_eq_true rfl) ?_ ⟨rfl, rfl⟩
  unfold f_C_knownTo at h
  refine J.iload_n 1 d_C_knownTo_0 rfl rfl ?_
  obtain ⟨x1, m2, zm2, h⟩ := jbd_some h
  refine J.cSi Y_C_isWriter (As := [.int v1]) (rest := []) d_C_knownTo_1 mi_C_isWriter ms_C_isWriter lk_C_102 ⟨rfl, rfl, Nat.le_of_ble_eq_true rfl⟩ (c_C_isWriter hG zm2) rfl (Nat.le_trans jcN (Nat.le_of_ble_eq_true rfl)) ?_
  refine J.if_eq 29 d_C_knownTo_4 rfl (fun c => ?_) (fun c => ?_)
  · rw [if_pos c] at h
    refine J.iconst (v := (0 : Int32)) d_C_knownTo_29 ki_0 ?_
    cases h
    exact J.iret d_C_knownTo_30 rfl (vp_nar_int _) rfl
  · rw [if_neg c] at h
    refine J.aload_n 0 d_C_knownTo_7 rfl rfl ?_
    refine J.getF (n := 29) hG d_C_knownTo_8 fl_C_38 ck_1_7 rfl ?_
    refine J.getF (n := 42) hG d_C_knownTo_11 fl_C_342 ck_29_12 rfl ?_
    refine J.iload_n 1 d_C_knownTo_14 rfl rfl ?_
    obtain ⟨x3, ex3, g, h⟩ := jld_some h
    refine J.il hG d_C_knownTo_15 g ex3 ?_
    refine J.nop (pc' := 16) rfl ?_
    refine J.aload_n 0 d_C_knownTo_16 rfl rfl ?_
    refine J.getF (n := 65) hG d_C_knownTo_17 fl_C_52 ck_1_9 rfl ?_
    refine J.getF (n := 75) hG d_C_knownTo_20 fl_C_345 ck_65_3 rfl ?_
    refine J.iload_n 1 d_C_knownTo_23 rfl rfl ?_
    obtain ⟨x4, ex4, g, h⟩ := jld_some h
    refine J.il hG d_C_knownTo_24 g ex4 ?_
    refine J.ior d_C_knownTo_25 ?_
    refine J.goto 30 d_C_knownTo_26 rfl ?_
    cases h
    exact J.iret d_C_knownTo_30 rfl (vp_nar_int _) rfl

def lp_C_enter_60 (v1 : Int32) (v2 : Int32) (v6 : Int32) (k99 : jMem → Option (Int32 × jMem)) : Nat → Int32 → jMem → Option (Int32 × jMem)
  | 0, _, _ => none
  | n + 1, v7, m =>
    if (6 : Int32) ≤ v7 then
      k99 m
    else
      jbd (f_C_isIn v2 v7 m) fun x7 m8 =>
      if x7 = 0 then
        lp_C_enter_60 v1 v2 v6 k99 n (v7 + (1 : Int32)) m8
      else
        jbd (f_P_send v6 v1 v7 (m8 1 6) m8) fun x9 m10 =>
        lp_C_enter_60 v1 v2 v6 k99 n (v7 + (1 : Int32)) m10
def f_C_enter (v1 : Int32) (v2 : Int32) (v3 : Int32) (v4 : Int32) (v5 : Int32) (m : jMem) : Option (Int32 × jMem) :=
  if (30 : Int32) ≤ (m 29 15) then
    some ((-1 : Int32), m)
  else
    jbd (f_JI_bitCount v2 m) fun x1 m2 =>
    if ((m 45 10) + x1) ≤ (150 : Int32) then
      jbd (f_C_knownTo v1 m2) fun x3 m4 =>
      jbd (f_L_add v1 (m2 1 6) v3 v2 v4 v5 x3 m4) fun x5 m6 =>
      lp_C_enter_60 v1 v2 x5 (fun m11 =>
        some (x5, m11)) 5000 (0 : Int32) m6
    else
      some ((-1 : Int32), m2)
theorem jlp_C_enter_60 {G : jG} (hG : jFul G) (v1 : Int32) (v2 : Int32) (v6 : Int32) (k99 : jMem → Option (Int32 × jMem))
    (hk99 : ∀ (m : jMem) (r : (Int32 × jMem)), k99 m = some r → J G Y_C_enter 99 [(6, .int v6)] [] m (jri r)) : ∀ (n : Nat) (v7 : Int32) (m : jMem) (r : (Int32 × jMem)), lp_C_enter_60 v1 v2 v6 k99 n v7 m = some r → J G Y_C_enter 60 [(0, jr G 1), (1, .int v1), (2, .int v2), (6, .int v6), (7, .int v7)] [] m (jri r) := by
  intro n
  induction n with
  | zero => intro v7 m r h; unfold lp_C_enter_60 at h; cases h
  | succ n ih =>
    intro v7 m r h
    unfold lp_C_enter_60 at h
    refine J.iload 4 d_C_enter_60 rfl ?_
    refine J.bipush (v := (6 : Int32)) d_C_enter_62 kb_6 ?_
    refine J.icmp_ge 99 d_C_enter_64 rfl (fun c => ?_) (fun c => ?_)
    · rw [if_pos c] at h
      exact J.sub (ls' := [(6, .int v6)]) [3] rfl (hk99  m _ h)
    · rw [if_neg c] at h
      refine J.iload_n 2 d_C_enter_67 rfl rfl ?_
      refine J.iload 4 d_C_enter_68 rfl ?_
      obtain ⟨x7, m8, zm8, h⟩ := jbd_some h
      refine J.cSi Y_C_isIn (As := [.int v2, .int v7]) (rest := []) d_C_enter_70 mi_C_isIn ms_C_isIn lk_C_110 ⟨rfl, rfl, Nat.le_of_ble_eq_true rfl⟩ (c_C_isIn hG zm8) rfl (Nat.le_trans jcN (Nat.le_of_ble_eq_true rfl)) ?_
      refine J.if_eq 93 d_C_enter_73 rfl (fun c => ?_) (fun c => ?_)
      · rw [if_pos c] at h
        refine J.iinc 4 (v := (1 : Int32)) (lv := [(7, .int (v7 + (1 : Int32))), (0, jr G 1), (1, .int v1), (2, .int v2), (6, .int v6)]) d_C_enter_93 rfl ki_1 (by decide) rfl ?_
        refine J.goto 60 d_C_enter_96 rfl ?_
        exact J.sub (ls' := [(0, jr G 1), (1, .int v1), (2, .int v2), (6, .int v6), (7, .int (v7 + (1 : Int32)))]) [1, 2, 3, 4, 0] rfl (ih (v7 + (1 : Int32)) m8 _ h)
      · rw [if_neg c] at h
        refine J.aload_n 0 d_C_enter_76 rfl rfl ?_
        refine J.nop (pc' := 77) rfl ?_
        refine J.getF (n := 45) hG d_C_enter_77 fl_C_45 ck_1_8 rfl ?_
        refine J.iload 3 d_C_enter_80 rfl ?_
        refine J.iload_n 1 d_C_enter_82 rfl rfl ?_
        refine J.iload 4 d_C_enter_83 rfl ?_
        refine J.aload_n 0 d_C_enter_85 rfl rfl ?_
        refine J.getI hG d_C_enter_86 fl_C_139 ck_1_6 ?_
        obtain ⟨x9, m10, zm10, h⟩ := jbd_some h
        refine J.cVi Y_P_send (As := [.int v6, .int v1, .int v7, .int (m8 1 6)]) (rest := []) hG d_C_enter_89 mi_P_send mv_P_send lk_C_142 ⟨rfl, rfl, Nat.le_of_ble_eq_true rfl⟩ cq_45 cc_5 (c_P_send hG zm10) rfl (Nat.le_trans jcN (Nat.le_of_ble_eq_true rfl)) ?_
        refine J.pop d_C_enter_92 rfl ?_
        refine J.nop (pc' := 93) rfl ?_
        refine J.iinc 4 (v := (1 : Int32)) (lv := [(7, .int (v7 + (1 : Int32))), (0, jr G 1), (1, .int v1), (2, .int v2), (6, .int v6)]) d_C_enter_93 rfl ki_1 (by decide) rfl ?_
        refine J.goto 60 d_C_enter_96 rfl ?_
        exact J.sub (ls' := [(0, jr G 1), (1, .int v1), (2, .int v2), (6, .int v6), (7, .int (v7 + (1 : Int32)))]) [1, 2, 3, 4, 0] rfl (ih (v7 + (1 : Int32)) m10 _ h)
theorem c_C_enter {G : jG} (hG : jFul G) {v1 : Int32} {v2 : Int32} {v3 : Int32} {v4 : Int32} {v5 : Int32} {m : jMem} {r : (Int32 × jMem)} (h : f_C_enter v1 v2 v3 v4 v5 m = some r) : jCt G Y_C_enter [jr G 1, .int v1, .int v2, .int v3, .int v4, .int v5] m (jri r) := by
  refine jCt.ov (ls := [(0, jr G 1), (1, .int v1), (2, .int v2), (3, .int v3), (4, .int v4), (5, .int v5)]) mi_C_enter (jAvR (jAvI (jAvI (jAvI (jAvI (jAvI jAvN)))))) (Nat.le_of_ble_eq_true rfl) ?_ ⟨rfl, rfl⟩
  unfold f_C_enter at h
  refine J.aload_n 0 d_C_enter_0 rfl rfl ?_
  refine J.getF (n := 29) hG d_C_enter_1 fl_C_38 ck_1_7 rfl ?_
  refine J.getI hG d_C_enter_4 fl_C_259 ck_29_15 ?_
  refine J.bipush (v := (30 : Int32)) d_C_enter_7 kb_30 ?_
  refine J.icmp_ge 30 d_C_enter_9 rfl (fun c => ?_) (fun c => ?_)
  · rw [if_pos c] at h
    refine J.iconst (v := (-1 : Int32)) d_C_enter_30 ki_m1 ?_
    cases h
    exact J.iret d_C_enter_31 rfl (vp_nar_int _) rfl
  · rw [if_neg c] at h
    refine J.aload_n 0 d_C_enter_12 rfl rfl ?_
    refine J.getF (n := 45) hG d_C_enter_13 fl_C_45 ck_1_8 rfl ?_
    refine J.getI hG d_C_enter_16 fl_C_327 ck_45_10 ?_
    refine J.nop (pc' := 19) rfl ?_
    refine J.iload_n 2 d_C_enter_19 rfl rfl ?_
    obtain ⟨x1, m2, zm2, h⟩ := jbd_some h
    refine J.cSi Y_JI_bitCount (As := [.int v2]) (rest := [.int (m 45 10)]) d_C_enter_20 mi_JI_bitCount ms_JI_bitCount lk_C_282 ⟨rfl, rfl, Nat.le_of_ble_eq_true rfl⟩ (c_JI_bitCount hG zm2) rfl (Nat.le_trans (jcI jcN) (Nat.le_of_ble_eq_true rfl)) ?_
    refine J.iadd d_C_enter_23 ?_
    refine J.sipush (v := (150 : Int32)) d_C_enter_24 ks_150 ?_
    refine J.icmp_le 32 d_C_enter_27 rfl (fun c => ?_) (fun c => ?_)
    · rw [if_pos c] at h
      refine J.aload_n 0 d_C_enter_32 rfl rfl ?_
      refine J.getF (n := 29) hG d_C_enter_33 fl_C_38 ck_1_7 rfl ?_
      refine J.iload_n 1 d_C_enter_36 rfl rfl ?_
      refine J.aload_n 0 d_C_enter_37 rfl rfl ?_
      refine J.getI hG d_C_enter_38 fl_C_139 ck_1_6 ?_
      refine J.iload_n 3 d_C_enter_41 rfl rfl ?_
      refine J.iload_n 2 d_C_enter_42 rfl rfl ?_
      refine J.iload 4 d_C_enter_43 rfl ?_
      refine J.nop (pc' := 45) rfl ?_
      refine J.iload 5 d_C_enter_45 rfl ?_
      refine J.aload_n 0 d_C_enter_47 rfl rfl ?_
      refine J.iload_n 1 d_C_enter_48 rfl rfl ?_
      obtain ⟨x3, m4, zm4, h⟩ := jbd_some h
      refine J.cVi Y_C_knownTo (As := [.int v1]) (rest := [.int v5, .int v4, .int v2, .int v3, .int (m2 1 6), .int v1, jr G 29]) hG d_C_enter_49 mi_C_knownTo mv_C_knownTo lk_C_135 ⟨rfl, rfl, Nat.le_of_ble_eq_true rfl⟩ cq_1 cc_0 (c_C_knownTo hG zm4) rfl (Nat.le_trans (jcI (jcI (jcI (jcI (jcI (jcI (jcR jcN))))))) (Nat.le_of_ble_eq_true rfl)) ?_
      obtain ⟨x5, m6, zm6, h⟩ := jbd_some h
      refine J.cVi Y_L_add (As := [.int v1, .int (m2 1 6), .int v3, .int v2, .int v4, .int v5, .int x3]) (rest := []) hG d_C_enter_52 mi_L_add mv_L_add lk_C_348 ⟨rfl, rfl, Nat.le_of_ble_eq_true rfl⟩ cq_29 cc_4 (c_L_add hG zm6) rfl (Nat.le_trans jcN (Nat.le_of_ble_eq_true rfl)) ?_
      refine J.istore (lv := [(6, .int x5), (0, jr G 1), (1, .int v1), (2, .int v2), (3, .int v3), (4, .int v4), (5, .int v5)]) d_C_enter_55 (by decide) rfl ?_
      refine J.iconst (v := (0 : Int32)) d_C_enter_57 ki_0 ?_
      refine J.istore (lv := [(7, .int (0 : Int32)), (6, .int x5), (0, jr G 1), (1, .int v1), (2, .int v2), (3, .int v3), (4, .int v4), (5, .int v5)]) d_C_enter_58 (by decide) rfl ?_
      refine J.sub (ls' := [(0, jr G 1), (1, .int v1), (2, .int v2), (6, .int x5), (7, .int (0 : Int32))]) [2, 3, 4, 1, 0] rfl ?_
      refine jlp_C_enter_60 hG v1 v2 x5 _ ?_ _ (0 : Int32) m6 _ h
      intro m11 r h
      refine J.iload 0 d_C_enter_99 rfl ?_
      cases h
      exact J.iret d_C_enter_101 rfl (vp_nar_int _) rfl
    · rw [if_neg c] at h
      refine J.iconst (v := (-1 : Int32)) d_C_enter_30 ki_m1 ?_
      cases h
      exact J.iret d_C_enter_31 rfl (vp_nar_int _) rfl

def f_C_mayAnswer (v1 : Int32) (v2 : Int32) (v3 : Int32) (v4 : Int32) (m : jMem) : Option (Int32 × jMem) :=
  if v2 = (2 : Int32) then
    if v4 = (-1 : Int32) then
      jld 1 m 42 v1 fun x7 =>
      jbd (f_C_isIn x7 v3 m) fun x8 m9 =>
      if x8 = 0 then
        some ((0 : Int32), m9)
      else
        some ((1 : Int32), m9)
    else
      some ((0 : Int32), m)
  else
    if v3 = (-1 : Int32) then
      if v4 = (-1 : Int32) then
        some ((1 : Int32), m)
      else
        some ((0 : Int32), m)
    else
      jbd (f_C_knownTo v1 m) fun x1 m2 =>
      jbd (f_C_isIn x1 v3 m2) fun x3 m4 =>
      if x3 = 0 then
        some ((0 : Int32), m4)
      else
        if v4 = (-1 : Int32) then
          some ((1 : Int32), m4)
        else
          if v4 = v3 then
            some ((0 : Int32), m4)
          else
            jbd (f_C_isIn x1 v4 m4) fun x5 m6 =>
            if x5 = 0 then
              some ((0 : Int32), m6)
            else
              some ((1 : Int32), m6)
theorem c_C_mayAnswer {G : jG} (hG : jFul G) {v1 : Int32} {v2 : Int32} {v3 : Int32} {v4 : Int32} {m : jMem} {r : (Int32 × jMem)} (h : f_C_mayAnswer v1 v2 v3 v4 m = some r) : jCt G Y_C_mayAnswer [jr G 1, .int v1, .int v2, .int v3, .int v4] m (jri r) := by
  refine jCt.ov (ls := [(0, jr G 1), (1, .int v1), (2, .int v2), (3, .int v3), (4, .int v4)]) mi_C_mayAnswer (jAvR (jAvI (jAvI (jAvI (jAvI jAvN))))) (Nat.le_of_ble_eq_true rfl) ?_ ⟨rfl, rfl⟩
  unfold f_C_mayAnswer at h
  refine J.iload_n 2 d_C_mayAnswer_0 rfl rfl ?_
  refine J.iconst (v := (2 : Int32)) d_C_mayAnswer_1 ki_2 ?_
  refine J.icmp_ne 33 d_C_mayAnswer_2 rfl (fun c => ?_) (fun c => ?_)
  · rw [if_neg c] at h
    refine J.iload_n 3 d_C_mayAnswer_33 rfl rfl ?_
    refine J.iconst (v := (-1 : Int32)) d_C_mayAnswer_34 ki_m1 ?_
    refine J.icmp_ne 50 d_C_mayAnswer_35 rfl (fun c => ?_) (fun c => ?_)
    · rw [if_neg c] at h
      refine J.aload_n 0 d_C_mayAnswer_50 rfl rfl ?_
      refine J.iload_n 1 d_C_mayAnswer_51 rfl rfl ?_
      obtain ⟨x1, m2, zm2, h⟩ := jbd_some h
      refine J.cVi Y_C_knownTo (As := [.int v1]) (rest := []) hG d_C_mayAnswer_52 mi_C_knownTo mv_C_knownTo lk_C_135 ⟨rfl, rfl, Nat.le_of_ble_eq_true rfl⟩ cq_1 cc_0 (c_C_knownTo hG zm2) rfl (Nat.le_trans jcN (Nat.le_of_ble_eq_true rfl)) ?_
      refine J.istore (lv := [(5, .int x1), (0, jr G 1), (1, .int v1), (2, .int v2), (3, .int v3), (4, .int v4)]) d_C_mayAnswer_55 (by decide) rfl ?_
      refine J.iload 0 d_C_mayAnswer_57 rfl ?_
      refine J.iload_n 4 d_C_mayAnswer_59 rfl rfl ?_
      obtain ⟨x3, m4, zm4, h⟩ := jbd_some h
      refine J.cSi Y_C_isIn (As := [.int x1, .int v3]) (rest := []) d_C_mayAnswer_60 mi_C_isIn ms_C_isIn lk_C_110 ⟨rfl, rfl, Nat.le_of_ble_eq_true rfl⟩ (c_C_isIn hG zm4) rfl (Nat.le_trans jcN (Nat.le_of_ble_eq_true rfl)) ?_
      refine J.if_eq 92 d_C_mayAnswer_63 rfl (fun c => ?_) (fun c => ?_)
      · rw [if_pos c] at h
        refine J.iconst (v := (0 : Int32)) d_C_mayAnswer_92 ki_0 ?_
        cases h
        exact J.iret d_C_mayAnswer_93 rfl rfl rfl
      · rw [if_neg c] at h
        refine J.nop (pc' := 66) rfl ?_
        refine J.iload 5 d_C_mayAnswer_66 rfl ?_
        refine J.iconst (v := (-1 : Int32)) d_C_mayAnswer_68 ki_m1 ?_
        refine J.icmp_eq 88 d_C_mayAnswer_69 rfl (fun c => ?_) (fun c => ?_)
        · rw [if_pos c] at h
          refine J.iconst (v := (1 : Int32)) d_C_mayAnswer_88 ki_1 ?_
          refine J.goto 93 d_C_mayAnswer_89 rfl ?_
          cases h
          exact J.iret d_C_mayAnswer_93 rfl rfl rfl
        · rw [if_neg c] at h
          refine J.iload 5 d_C_mayAnswer_72 rfl ?_
          refine J.iload_n 4 d_C_mayAnswer_74 rfl rfl ?_
          refine J.icmp_eq 92 d_C_mayAnswer_75 rfl (fun c => ?_) (fun c => ?_)
          · rw [if_pos c] at h
            refine J.iconst (v := (0 : Int32)) d_C_mayAnswer_92 ki_0 ?_
            cases h
            exact J.iret d_C_mayAnswer_93 rfl rfl rfl
          · rw [if_neg c] at h
            refine J.iload 0 d_C_mayAnswer_78 rfl ?_
            refine J.iload 5 d_C_mayAnswer_80 rfl ?_
            refine J.nop (pc' := 82) rfl ?_
            obtain ⟨x5, m6, zm6, h⟩ := jbd_some h
            refine J.cSi Y_C_isIn (As := [.int x1, .int v4]) (rest := []) d_C_mayAnswer_82 mi_C_isIn ms_C_isIn lk_C_110 ⟨rfl, rfl, Nat.le_of_ble_eq_true rfl⟩ (c_C_isIn hG zm6) rfl (Nat.le_trans jcN (Nat.le_of_ble_eq_true rfl)) ?_
            refine J.if_eq 92 d_C_mayAnswer_85 rfl (fun c => ?_) (fun c => ?_)
            · rw [if_pos c] at h
              refine J.iconst (v := (0 : Int32)) d_C_mayAnswer_92 ki_0 ?_
              cases h
              exact J.iret d_C_mayAnswer_93 rfl rfl rfl
            · rw [if_neg c] at h
              refine J.iconst (v := (1 : Int32)) d_C_mayAnswer_88 ki_1 ?_
              refine J.goto 93 d_C_mayAnswer_89 rfl ?_
              cases h
              exact J.iret d_C_mayAnswer_93 rfl rfl rfl
    · rw [if_pos c] at h
      refine J.iload 4 d_C_mayAnswer_38 rfl ?_
      refine J.iconst (v := (-1 : Int32)) d_C_mayAnswer_40 ki_m1 ?_
      refine J.icmp_ne 48 d_C_mayAnswer_41 rfl (fun c => ?_) (fun c => ?_)
      · rw [if_neg c] at h
        refine J.iconst (v := (0 : Int32)) d_C_mayAnswer_48 ki_0 ?_
        cases h
        exact J.iret d_C_mayAnswer_49 rfl rfl rfl
      · rw [if_pos c] at h
        refine J.iconst (v := (1 : Int32)) d_C_mayAnswer_44 ki_1 ?_
        refine J.goto 49 d_C_mayAnswer_45 rfl ?_
        cases h
        exact J.iret d_C_mayAnswer_49 rfl rfl rfl
  · rw [if_pos c] at h
    refine J.iload 4 d_C_mayAnswer_5 rfl ?_
    refine J.iconst (v := (-1 : Int32)) d_C_mayAnswer_7 ki_m1 ?_
    refine J.icmp_ne 31 d_C_mayAnswer_8 rfl (fun c => ?_) (fun c => ?_)
    · rw [if_neg c] at h
      refine J.iconst (v := (0 : Int32)) d_C_mayAnswer_31 ki_0 ?_
      cases h
      exact J.iret d_C_mayAnswer_32 rfl rfl rfl
    · rw [if_pos c] at h
      refine J.aload_n 0 d_C_mayAnswer_11 rfl rfl ?_
      refine J.getF (n := 29) hG d_C_mayAnswer_12 fl_C_38 ck_1_7 rfl ?_
      refine J.nop (pc' := 15) rfl ?_
      refine J.getF (n := 42) hG d_C_mayAnswer_15 fl_C_342 ck_29_12 rfl ?_
      refine J.iload_n 1 d_C_mayAnswer_18 rfl rfl ?_
      obtain ⟨x7, ex7, g, h⟩ := jld_some h
      refine J.il hG d_C_mayAnswer_19 g ex7 ?_
      refine J.iload_n 3 d_C_mayAnswer_20 rfl rfl ?_
      obtain ⟨x8, m9, zm9, h⟩ := jbd_some h
      refine J.cSi Y_C_isIn (As := [.int x7, .int v3]) (rest := []) d_C_mayAnswer_21 mi_C_isIn ms_C_isIn lk_C_110 ⟨rfl, rfl, Nat.le_of_ble_eq_true rfl⟩ (c_C_isIn hG zm9) rfl (Nat.le_trans jcN (Nat.le_of_ble_eq_true rfl)) ?_
      refine J.if_eq 31 d_C_mayAnswer_24 rfl (fun c => ?_) (fun c => ?_)
      · rw [if_pos c] at h
        refine J.iconst (v := (0 : Int32)) d_C_mayAnswer_31 ki_0 ?_
        cases h
        exact J.iret d_C_mayAnswer_32 rfl rfl rfl
      · rw [if_neg c] at h
        refine J.iconst (v := (1 : Int32)) d_C_mayAnswer_27 ki_1 ?_
        refine J.goto 32 d_C_mayAnswer_28 rfl ?_
        cases h
        exact J.iret d_C_mayAnswer_32 rfl rfl rfl

def f_C_write (v1 : Int32) (v2 : Int32) (v3 : Int32) (v4 : Int32) (v5 : Int32) (m : jMem) : Option (Int32 × jMem) :=
  jbd (f_C_isWriter v1 m) fun x1 m2 =>
  if x1 = 0 then
    some ((-1 : Int32), m2)
  else
    if v3 < 0 then
      some ((-1 : Int32), m2)
    else
      if v3 ≤ (2 : Int32) then
        if v2 < (1 : Int32) then
          some ((-1 : Int32), m2)
        else
          if (63 : Int32) < v2 then
            some ((-1 : Int32), m2)
          else
            jbd (f_C_isIn v2 v1 m2) fun x3 m4 =>
            if x3 = 0 then
              jbd (f_C_mayAnswer v1 v3 v4 v5 m4) fun x5 m6 =>
              if x5 = 0 then
                some ((-1 : Int32), m6)
              else
                jbd (f_C_enter v1 v2 v3 v4 v5 m6) fun x7 m8 =>
                some (x7, m8)
            else
              some ((-1 : Int32), m4)
      else
        some ((-1 : Int32), m2)
theorem c_C_write {G : jG} (hG : jFul G) {v1 : Int32} {v2 : Int32} {v3 : Int32} {v4 : Int32} {v5 : Int32} {m : jMem} {r : (Int32 × jMem)} (h : f_C_write v1 v2 v3 v4 v5 m = some r) : jCt G Y_C_write [jr G 1, .int v1, .int v2, .int v3, .int v4, .int v5] m (jri r) := by
  refine jCt.ov (ls := [(0, jr G 1), (1, .int v1), (2, .int v2), (3, .int v3), (4, .int v4), (5, .int v5)]) mi_C_write (jAvR (jAvI (jAvI (jAvI (jAvI (jAvI jAvN)))))) (Nat.le_of_ble_eq_true rfl) ?_ ⟨rfl, rfl⟩
  unfold f_C_write at h
  refine J.iload_n 1 d_C_write_0 rfl rfl ?_
  obtain ⟨x1, m2, zm2, h⟩ := jbd_some h
  refine J.cSi Y_C_isWriter (As := [.int v1]) (rest := []) d_C_write_1 mi_C_isWriter ms_C_isWriter lk_C_102 ⟨rfl, rfl, Nat.le_of_ble_eq_true rfl⟩ (c_C_isWriter hG zm2) rfl (Nat.le_trans jcN (Nat.le_of_ble_eq_true rfl)) ?_
  refine J.if_eq 16 d_C_write_4 rfl (fun c => ?_) (fun c => ?_)
  · rw [if_pos c] at h
    refine J.iconst (v := (-1 : Int32)) d_C_write_16 ki_m1 ?_
    cases h
    exact J.iret d_C_write_17 rfl (vp_nar_int _) rfl
  · rw [if_neg c] at h
    refine J.iload_n 3 d_C_write_7 rfl rfl ?_
    refine J.if_lt 16 d_C_write_8 rfl (fun c => ?_) (fun c => ?_)
    · rw [if_pos c] at h
      refine J.iconst (v := (-1 : Int32)) d_C_write_16 ki_m1 ?_
      cases h
      exact J.iret d_C_write_17 rfl (vp_nar_int _) rfl
    · rw [if_neg c] at h
      refine J.iload_n 3 d_C_write_11 rfl rfl ?_
      refine J.iconst (v := (2 : Int32)) d_C_write_12 ki_2 ?_
      refine J.icmp_le 18 d_C_write_13 rfl (fun c => ?_) (fun c => ?_)
      · rw [if_pos c] at h
        refine J.iload_n 2 d_C_write_18 rfl rfl ?_
        refine J.iconst (v := (1 : Int32)) d_C_write_19 ki_1 ?_
        refine J.icmp_lt 37 d_C_write_20 rfl (fun c => ?_) (fun c => ?_)
        · rw [if_pos c] at h
          refine J.iconst (v := (-1 : Int32)) d_C_write_37 ki_m1 ?_
          cases h
          exact J.iret d_C_write_38 rfl (vp_nar_int _) rfl
        · rw [if_neg c] at h
          refine J.iload_n 2 d_C_write_23 rfl rfl ?_
          refine J.bipush (v := (63 : Int32)) d_C_write_24 kb_63 ?_
          refine J.icmp_gt 37 d_C_write_26 rfl (fun c => ?_) (fun c => ?_)
          · rw [if_pos c] at h
            refine J.iconst (v := (-1 : Int32)) d_C_write_37 ki_m1 ?_
            cases h
            exact J.iret d_C_write_38 rfl (vp_nar_int _) rfl
          · rw [if_neg c] at h
            refine J.iload_n 2 d_C_write_29 rfl rfl ?_
            refine J.iload_n 1 d_C_write_30 rfl rfl ?_
            refine J.nop (pc' := 31) rfl ?_
            obtain ⟨x3, m4, zm4, h⟩ := jbd_some h
            refine J.cSi Y_C_isIn (As := [.int v2, .int v1]) (rest := []) d_C_write_31 mi_C_isIn ms_C_isIn lk_C_110 ⟨rfl, rfl, Nat.le_of_ble_eq_true rfl⟩ (c_C_isIn hG zm4) rfl (Nat.le_trans jcN (Nat.le_of_ble_eq_true rfl)) ?_
            refine J.if_eq 39 d_C_write_34 rfl (fun c => ?_) (fun c => ?_)
            · rw [if_pos c] at h
              refine J.aload_n 0 d_C_write_39 rfl rfl ?_
              refine J.iload_n 1 d_C_write_40 rfl rfl ?_
              refine J.iload_n 3 d_C_write_41 rfl rfl ?_
              refine J.iload 4 d_C_write_42 rfl ?_
              refine J.iload 5 d_C_write_44 rfl ?_
              obtain ⟨x5, m6, zm6, h⟩ := jbd_some h
              refine J.cVi Y_C_mayAnswer (As := [.int v1, .int v3, .int v4, .int v5]) (rest := []) hG d_C_write_46 mi_C_mayAnswer mv_C_mayAnswer lk_C_114 ⟨rfl, rfl, Nat.le_of_ble_eq_true rfl⟩ cq_1 cc_0 (c_C_mayAnswer hG zm6) rfl (Nat.le_trans jcN (Nat.le_of_ble_eq_true rfl)) ?_
              refine J.if_ne 54 d_C_write_49 rfl (fun c => ?_) (fun c => ?_)
              · rw [if_neg c] at h
                refine J.aload_n 0 d_C_write_54 rfl rfl ?_
                refine J.iload_n 1 d_C_write_55 rfl rfl ?_
                refine J.iload_n 2 d_C_write_56 rfl rfl ?_
                refine J.iload_n 3 d_C_write_57 rfl rfl ?_
                refine J.iload 4 d_C_write_58 rfl ?_
                refine J.iload 5 d_C_write_60 rfl ?_
                obtain ⟨x7, m8, zm8, h⟩ := jbd_some h
                refine J.cVi Y_C_enter (As := [.int v1, .int v2, .int v3, .int v4, .int v5]) (rest := []) hG d_C_write_62 mi_C_enter mv_C_enter lk_C_118 ⟨rfl, rfl, Nat.le_of_ble_eq_true rfl⟩ cq_1 cc_0 (c_C_enter hG zm8) rfl (Nat.le_trans jcN (Nat.le_of_ble_eq_true rfl)) ?_
                cases h
                exact J.iret d_C_write_65 rfl (vp_nar_int _) rfl
              · rw [if_pos c] at h
                refine J.iconst (v := (-1 : Int32)) d_C_write_52 ki_m1 ?_
                refine J.nop (pc' := 53) rfl ?_
                cases h
                exact J.iret d_C_write_53 rfl (vp_nar_int _) rfl
            · rw [if_neg c] at h
              refine J.iconst (v := (-1 : Int32)) d_C_write_37 ki_m1 ?_
              cases h
              exact J.iret d_C_write_38 rfl (vp_nar_int _) rfl
      · rw [if_neg c] at h
        refine J.nop (pc' := 16) rfl ?_
        refine J.iconst (v := (-1 : Int32)) d_C_write_16 ki_m1 ?_
        cases h
        exact J.iret d_C_write_17 rfl (vp_nar_int _) rfl

def f_C_late (v1 : Int32) (v2 : Int32) (m : jMem) : Option (Int32 × jMem) :=
  jbd (f_P_isUnderWay v1 m) fun x1 m2 =>
  if x1 = 0 then
    some ((-1 : Int32), m2)
  else
    if v2 < (1 : Int32) then
      some ((-1 : Int32), m2)
    else
      if v2 ≤ (99 : Int32) then
        jbd (f_P_delay v1 v2 m2) fun x3 m4 =>
        some (x3, m4)
      else
        some ((-1 : Int32), m2)
theorem c_C_late {G : jG} (hG : jFul G) {v1 : Int32} {v2 : Int32} {m : jMem} {r : (Int32 × jMem)} (h : f_C_late v1 v2 m = some r) : jCt G Y_C_late [jr G 1, .int v1, .int v2] m (jri r) := by
  refine jCt.ov (ls := [(0, jr G 1), (1, .int v1), (2, .int v2)]) mi_C_late (jAvR (jAvI (jAvI jAvN))) (Nat.le_of_ble_eq_true rfl) ?_ ⟨rfl, rfl⟩
  unfold f_C_late at h
  refine J.aload_n 0 d_C_late_0 rfl rfl ?_
  refine J.getF (n := 45) hG d_C_late_1 fl_C_45 ck_1_8 rfl ?_
  refine J.iload_n 1 d_C_late_4 rfl rfl ?_
  obtain ⟨x1, m2, zm2, h⟩ := jbd_some h
  refine J.cVi Y_P_isUnderWay (As := [.int v1]) (rest := []) hG d_C_late_5 mi_P_isUnderWay mv_P_isUnderWay lk_C_122 ⟨rfl, rfl, Nat.le_of_ble_eq_true rfl⟩ cq_45 cc_5 (c_P_isUnderWay hG zm2) rfl (Nat.le_trans jcN (Nat.le_of_ble_eq_true rfl)) ?_
  refine J.if_eq 22 d_C_late_8 rfl (fun c => ?_) (fun c => ?_)
  · rw [if_pos c] at h
    refine J.iconst (v := (-1 : Int32)) d_C_late_22 ki_m1 ?_
    cases h
    exact J.iret d_C_late_23 rfl (vp_nar_int _) rfl
  · rw [if_neg c] at h
    refine J.iload_n 2 d_C_late_11 rfl rfl ?_
    refine J.iconst (v := (1 : Int32)) d_C_late_12 ki_1 ?_
    refine J.icmp_lt 22 d_C_late_13 rfl (fun c => ?_) (fun c => ?_)
    · rw [if_pos c] at h
      refine J.iconst (v := (-1 : Int32)) d_C_late_22 ki_m1 ?_
      cases h
      exact J.iret d_C_late_23 rfl (vp_nar_int _) rfl
    · rw [if_neg c] at h
      refine J.nop (pc' := 16) rfl ?_
      refine J.iload_n 2 d_C_late_16 rfl rfl ?_
      refine J.bipush (v := (99 : Int32)) d_C_late_17 kb_99 ?_
      refine J.icmp_le 24 d_C_late_19 rfl (fun c => ?_) (fun c => ?_)
      · rw [if_pos c] at h
        refine J.aload_n 0 d_C_late_24 rfl rfl ?_
        refine J.getF (n := 45) hG d_C_late_25 fl_C_45 ck_1_8 rfl ?_
        refine J.iload_n 1 d_C_late_28 rfl rfl ?_
        refine J.iload_n 2 d_C_late_29 rfl rfl ?_
        obtain ⟨x3, m4, zm4, h⟩ := jbd_some h
        refine J.cVi Y_P_delay (As := [.int v1, .int v2]) (rest := []) hG d_C_late_30 mi_P_delay mv_P_delay lk_C_125 ⟨rfl, rfl, Nat.le_of_ble_eq_true rfl⟩ cq_45 cc_5 (c_P_delay hG zm4) rfl (Nat.le_trans jcN (Nat.le_of_ble_eq_true rfl)) ?_
        cases h
        exact J.iret d_C_late_33 rfl (vp_nar_int _) rfl
      · rw [if_neg c] at h
        refine J.iconst (v := (-1 : Int32)) d_C_late_22 ki_m1 ?_
        cases h
        exact J.iret d_C_late_23 rfl (vp_nar_int _) rfl

def f_C_lose (v1 : Int32) (m : jMem) : Option (Int32 × jMem) :=
  jbd (f_P_isUnderWay v1 m) fun x1 m2 =>
  if x1 = 0 then
    some ((0 : Int32), m2)
  else
    jst 1 m2 64 v1 (2 : Int32) fun m3 =>
    some ((1 : Int32), m3)
theorem c_C_lose {G : jG} (hG : jFul G) {v1 : Int32} {m : jMem} {r : (Int32 × jMem)} (h : f_C_lose v1 m = some r) : jCt G Y_C_lose [jr G 1, .int v1] m (jri r) := by
  refine jCt.ov (ls := [(0, jr G 1), (1, .int v1)]) mi_C_lose (jAvR (jAvI jAvN)) (Nat.le_of_ble_eq_true rfl) ?_ ⟨rfl, rfl⟩
  unfold f_C_lose at h
  refine J.aload_n 0 d_C_lose_0 rfl rfl ?_
  refine J.getF (n := 45) hG d_C_lose_1 fl_C_45 ck_1_8 rfl ?_
  refine J.iload_n 1 d_C_lose_4 rfl rfl ?_
  obtain ⟨x1, m2, zm2, h⟩ := jbd_some h
  refine J.cVi Y_P_isUnderWay (As := [.int v1]) (rest := []) hG d_C_lose_5 mi_P_isUnderWay mv_P_isUnderWay lk_C_122 ⟨rfl, rfl, Nat.le_of_ble_eq_true rfl⟩ cq_45 cc_5 (c_P_isUnderWay hG zm2) rfl (Nat.le_trans jcN (Nat.le_of_ble_eq_true rfl)) ?_
  refine J.if_ne 13 d_C_lose_8 rfl (fun c => ?_) (fun c => ?_)
  · rw [if_neg c] at h
    refine J.aload_n 0 d_C_lose_13 rfl rfl ?_
    refine J.getF (n := 45) hG d_C_lose_14 fl_C_45 ck_1_8 rfl ?_
    refine J.getF (n := 64) hG d_C_lose_17 fl_C_129 ck_45_9 rfl ?_
    refine J.iload_n 1 d_C_lose_20 rfl rfl ?_
    refine J.iconst (v := (2 : Int32)) d_C_lose_21 ki_2 ?_
    obtain ⟨m3, hm3, g, h⟩ := jst_some h
    refine J.is hG d_C_lose_22 g hm3 ?_
    refine J.iconst (v := (1 : Int32)) d_C_lose_23 ki_1 ?_
    cases h
    exact J.iret d_C_lose_24 rfl rfl rfl
  · rw [if_pos c] at h
    refine J.iconst (v := (0 : Int32)) d_C_lose_11 ki_0 ?_
    cases h
    exact J.iret d_C_lose_12 rfl rfl rfl

def f_C_again (v1 : Int32) (v2 : Int32) (v3 : Int32) (m : jMem) : Option (Int32 × jMem) :=
  jbd (f_L_isLetter v1 m) fun x1 m2 =>
  if x1 = 0 then
    some ((-1 : Int32), m2)
  else
    jbd (f_C_isWriter v2 m2) fun x3 m4 =>
    if x3 = 0 then
      some ((-1 : Int32), m4)
    else
      jbd (f_C_isWriter v3 m4) fun x5 m6 =>
      if x5 = 0 then
        some ((-1 : Int32), m6)
      else
        if v2 = v3 then
          some ((-1 : Int32), m6)
        else
          jbd (f_C_knownTo v2 m6) fun x7 m8 =>
          jbd (f_C_isIn x7 v1 m8) fun x9 m10 =>
          if x9 = 0 then
            some ((-1 : Int32), m10)
          else
            jbd (f_P_send v1 v2 v3 (m10 1 6) m10) fun x11 m12 =>
            some (x11, m12)
theorem c_C_again {G : jG} (hG : jFul G) {v1 : Int32} {v2 : Int32} {v3 : Int32} {m : jMem} {r : (Int32 × jMem)} (h : f_C_again v1 v2 v3 m = some r) : jCt G Y_C_again [jr G 1, .int v1, .int v2, .int v3] m (jri r) := by
  refine jCt.ov (ls := [(0, jr G 1), (1, .int v1), (2, .int v2), (3, .int v3)]) mi_C_again (jAvR (jAvI (jAvI (jAvI jAvN)))) (Nat.le_of_ble_eq_true rfl) ?_ ⟨rfl, rfl⟩
  unfold f_C_again at h
  refine J.aload_n 0 d_C_again_0 rfl rfl ?_
  refine J.getF (n := 29) hG d_C_again_1 fl_C_38 ck_1_7 rfl ?_
  refine J.iload_n 1 d_C_again_4 rfl rfl ?_
  obtain ⟨x1, m2, zm2, h⟩ := jbd_some h
  refine J.cVi Y_L_isLetter (As := [.int v1]) (rest := []) hG d_C_again_5 mi_L_isLetter mv_L_isLetter lk_C_132 ⟨rfl, rfl, Nat.le_of_ble_eq_true rfl⟩ cq_29 cc_4 (c_L_isLetter hG zm2) rfl (Nat.le_trans jcN (Nat.le_of_ble_eq_true rfl)) ?_
  refine J.if_eq 30 d_C_again_8 rfl (fun c => ?_) (fun c => ?_)
  · rw [if_pos c] at h
    refine J.iconst (v := (-1 : Int32)) d_C_again_30 ki_m1 ?_
    cases h
    exact J.iret d_C_again_31 rfl (vp_nar_int _) rfl
  · rw [if_neg c] at h
    refine J.iload_n 2 d_C_again_11 rfl rfl ?_
    obtain ⟨x3, m4, zm4, h⟩ := jbd_some h
    refine J.cSi Y_C_isWriter (As := [.int v2]) (rest := []) d_C_again_12 mi_C_isWriter ms_C_isWriter lk_C_102 ⟨rfl, rfl, Nat.le_of_ble_eq_true rfl⟩ (c_C_isWriter hG zm4) rfl (Nat.le_trans jcN (Nat.le_of_ble_eq_true rfl)) ?_
    refine J.if_eq 30 d_C_again_15 rfl (fun c => ?_) (fun c => ?_)
    · rw [if_pos c] at h
      refine J.iconst (v := (-1 : Int32)) d_C_again_30 ki_m1 ?_
      cases h
      exact J.iret d_C_again_31 rfl (vp_nar_int _) rfl
    · rw [if_neg c] at h
      refine J.nop (pc' := 18) rfl ?_
      refine J.iload_n 3 d_C_again_18 rfl rfl ?_
      obtain ⟨x5, m6, zm6, h⟩ := jbd_some h
      refine J.cSi Y_C_isWriter (As := [.int v3]) (rest := []) d_C_again_19 mi_C_isWriter ms_C_isWriter lk_C_102 ⟨rfl, rfl, Nat.le_of_ble_eq_true rfl⟩ (c_C_isWriter hG zm6) rfl (Nat.le_trans jcN (Nat.le_of_ble_eq_true rfl)) ?_
      refine J.if_eq 30 d_C_again_22 rfl (fun c => ?_) (fun c => ?_)
      · rw [if_pos c] at h
        refine J.iconst (v := (-1 : Int32)) d_C_again_30 ki_m1 ?_
        cases h
        exact J.iret d_C_again_31 rfl (vp_nar_int _) rfl
      · rw [if_neg c] at h
        refine J.iload_n 2 d_C_again_25 rfl rfl ?_
        refine J.iload_n 3 d_C_again_26 rfl rfl ?_
        refine J.icmp_ne 32 d_C_again_27 rfl (fun c => ?_) (fun c => ?_)
        · rw [if_neg c] at h
          refine J.aload_n 0 d_C_again_32 rfl rfl ?_
          refine J.iload_n 2 d_C_again_33 rfl rfl ?_
          obtain ⟨x7, m8, zm8, h⟩ := jbd_some h
          refine J.cVi Y_C_knownTo (As := [.int v2]) (rest := []) hG d_C_again_34 mi_C_knownTo mv_C_knownTo lk_C_135 ⟨rfl, rfl, Nat.le_of_ble_eq_true rfl⟩ cq_1 cc_0 (c_C_knownTo hG zm8) rfl (Nat.le_trans jcN (Nat.le_of_ble_eq_true rfl)) ?_
          refine J.iload_n 1 d_C_again_37 rfl rfl ?_
          obtain ⟨x9, m10, zm10, h⟩ := jbd_some h
          refine J.cSi Y_C_isIn (As := [.int x7, .int v1]) (rest := []) d_C_again_38 mi_C_isIn ms_C_isIn lk_C_110 ⟨rfl, rfl, Nat.le_of_ble_eq_true rfl⟩ (c_C_isIn hG zm10) rfl (Nat.le_trans jcN (Nat.le_of_ble_eq_true rfl)) ?_
          refine J.if_ne 46 d_C_again_41 rfl (fun c => ?_) (fun c => ?_)
          · rw [if_neg c] at h
            refine J.aload_n 0 d_C_again_46 rfl rfl ?_
            refine J.getF (n := 45) hG d_C_again_47 fl_C_45 ck_1_8 rfl ?_
            refine J.iload_n 1 d_C_again_50 rfl rfl ?_
            refine J.iload_n 2 d_C_again_51 rfl rfl ?_
            refine J.iload_n 3 d_C_again_52 rfl rfl ?_
            refine J.aload_n 0 d_C_again_53 rfl rfl ?_
            refine J.getI hG d_C_again_54 fl_C_139 ck_1_6 ?_
            obtain ⟨x11, m12, zm12, h⟩ := jbd_some h
            refine J.cVi Y_P_send (As := [.int v1, .int v2, .int v3, .int (m10 1 6)]) (rest := []) hG d_C_again_57 mi_P_send mv_P_send lk_C_142 ⟨rfl, rfl, Nat.le_of_ble_eq_true rfl⟩ cq_45 cc_5 (c_P_send hG zm12) rfl (Nat.le_trans jcN (Nat.le_of_ble_eq_true rfl)) ?_
            refine J.nop (pc' := 60) rfl ?_
            cases h
            exact J.iret d_C_again_60 rfl (vp_nar_int _) rfl
          · rw [if_pos c] at h
            refine J.iconst (v := (-1 : Int32)) d_C_again_44 ki_m1 ?_
            cases h
            exact J.iret d_C_again_45 rfl (vp_nar_int _) rfl
        · rw [if_pos c] at h
          refine J.iconst (v := (-1 : Int32)) d_C_again_30 ki_m1 ?_
          cases h
          exact J.iret d_C_again_31 rfl (vp_nar_int _) rfl

def f_C_split (v1 : Int32) (v2 : Int32) (v3 : Int32) (m : jMem) : Option (Int32 × jMem) :=
  if v1 < 0 then
    some ((0 : Int32), m)
  else
    if (63 : Int32) < v1 then
      some ((0 : Int32), m)
    else
      if v2 < 0 then
        some ((0 : Int32), m)
      else
        if v3 < v2 then
          some ((0 : Int32), m)
        else
          if v3 < (999 : Int32) then
            jbd (f_P_setSplit v1 v2 v3 m) fun u1 m2 =>
            some ((1 : Int32), m2)
          else
            some ((0 : Int32), m)
theorem c_C_split {G : jG} (hG : jFul G) {v1 : Int32} {v2 : Int32} {v3 : Int32} {m : jMem} {r : (Int32 × jMem)} (h : f_C_split v1 v2 v3 m = some r) : jCt G Y_C_split [jr G 1, .int v1, .int v2, .int v3] m (jri r) := by
  refine jCt.ov (ls := [(0, jr G 1), (1, .int v1), (2, .int v2), (3, .int v3)]) mi_C_split (jAvR (jAvI (jAvI (jAvI jAvN)))) (Nat.le_of_ble_eq_true rfl) ?_ ⟨rfl, rfl⟩
  unfold f_C_split at h
  refine J.iload_n 1 d_C_split_0 rfl rfl ?_
  refine J.if_lt 26 d_C_split_1 rfl (fun c => ?_) (fun c => ?_)
  · rw [if_pos c] at h
    refine J.iconst (v := (0 : Int32)) d_C_split_26 ki_0 ?_
    cases h
    exact J.iret d_C_split_27 rfl rfl rfl
  · rw [if_neg c] at h
    refine J.iload_n 1 d_C_split_4 rfl rfl ?_
    refine J.bipush (v := (63 : Int32)) d_C_split_5 kb_63 ?_
    refine J.icmp_gt 26 d_C_split_7 rfl (fun c => ?_) (fun c => ?_)
    · rw [if_pos c] at h
      refine J.iconst (v := (0 : Int32)) d_C_split_26 ki_0 ?_
      cases h
      exact J.iret d_C_split_27 rfl rfl rfl
    · rw [if_neg c] at h
      refine J.iload_n 2 d_C_split_10 rfl rfl ?_
      refine J.if_lt 26 d_C_split_11 rfl (fun c => ?_) (fun c => ?_)
      · rw [if_pos c] at h
        refine J.iconst (v := (0 : Int32)) d_C_split_26 ki_0 ?_
        cases h
        exact J.iret d_C_split_27 rfl rfl rfl
      · rw [if_neg c] at h
        refine J.iload_n 2 d_C_split_14 rfl rfl ?_
        refine J.nop (pc' := 15) rfl ?_
        refine J.iload_n 3 d_C_split_15 rfl rfl ?_
        refine J.icmp_gt 26 d_C_split_16 rfl (fun c => ?_) (fun c => ?_)
        · rw [if_pos c] at h
          refine J.iconst (v := (0 : Int32)) d_C_split_26 ki_0 ?_
          cases h
          exact J.iret d_C_split_27 rfl rfl rfl
        · rw [if_neg c] at h
          refine J.iload_n 3 d_C_split_19 rfl rfl ?_
          refine J.sipush (v := (999 : Int32)) d_C_split_20 ks_999 ?_
          refine J.icmp_lt 28 d_C_split_23 rfl (fun c => ?_) (fun c => ?_)
          · rw [if_pos c] at h
            refine J.aload_n 0 d_C_split_28 rfl rfl ?_
            refine J.getF (n := 45) hG d_C_split_29 fl_C_45 ck_1_8 rfl ?_
            refine J.iload_n 1 d_C_split_32 rfl rfl ?_
            refine J.iload_n 2 d_C_split_33 rfl rfl ?_
            refine J.iload_n 3 d_C_split_34 rfl rfl ?_
            obtain ⟨u1, m2, zm2, h⟩ := jbd_some h
            refine J.cVv Y_P_setSplit (As := [.int v1, .int v2, .int v3]) (rest := []) hG d_C_split_35 mi_P_setSplit mv_P_setSplit lk_C_146 ⟨rfl, rfl, Nat.le_of_ble_eq_true rfl⟩ cq_45 cc_5 (c_P_setSplit hG zm2) rfl (Nat.le_trans jcN (Nat.le_of_ble_eq_true rfl)) ?_
            refine J.iconst (v := (1 : Int32)) d_C_split_38 ki_1 ?_
            cases h
            exact J.iret d_C_split_39 rfl rfl rfl
          · rw [if_neg c] at h
            refine J.iconst (v := (0 : Int32)) d_C_split_26 ki_0 ?_
            cases h
            exact J.iret d_C_split_27 rfl rfl rfl

def f_C_bring (v1 : Int32) (v2 : Int32) (m : jMem) : Option (Unit × jMem) :=
  jbd (f_C_isWriter v2 m) fun x1 m2 =>
  if x1 = 0 then
    some ((), m2)
  else
    jbd (f_C_knownTo v2 m2) fun x3 m4 =>
    jbd (f_C_isIn x3 v1 m4) fun x5 m6 =>
    if x5 = 0 then
      jbd (f_D_holds v2 v1 m6) fun x7 m8 =>
      if x7 = 0 then
        jbd (f_D_put v2 v1 m8) fun u9 m10 =>
        some ((), m10)
      else
        some ((), m8)
    else
      some ((), m6)
theorem c_C_bring {G : jG} (hG : jFul G) {v1 : Int32} {v2 : Int32} {m : jMem} {r : (Unit × jMem)} (h : f_C_bring v1 v2 m = some r) : jCt G Y_C_bring [jr G 1, .int v1, .int v2] m (jrv r) := by
  refine jCt.ov (ls := [(0, jr G 1), (1, .int v1), (2, .int v2)]) mi_C_bring (jAvR (jAvI (jAvI jAvN))) (Nat.le_of_ble_eq_true rfl) ?_ ⟨rfl, rfl⟩
  unfold f_C_bring at h
  refine J.iload_n 2 d_C_bring_0 rfl rfl ?_
  obtain ⟨x1, m2, zm2, h⟩ := jbd_some h
  refine J.cSi Y_C_isWriter (As := [.int v2]) (rest := []) d_C_bring_1 mi_C_isWriter ms_C_isWriter lk_C_102 ⟨rfl, rfl, Nat.le_of_ble_eq_true rfl⟩ (c_C_isWriter hG zm2) rfl (Nat.le_trans jcN (Nat.le_of_ble_eq_true rfl)) ?_
  refine J.if_eq 40 d_C_bring_4 rfl (fun c => ?_) (fun c => ?_)
  · rw [if_pos c] at h
    cases h
    exact J.vret d_C_bring_40 rfl rfl
  · rw [if_neg c] at h
    refine J.aload_n 0 d_C_bring_7 rfl rfl ?_
    refine J.iload_n 2 d_C_bring_8 rfl rfl ?_
    obtain ⟨x3, m4, zm4, h⟩ := jbd_some h
    refine J.cVi Y_C_knownTo (As := [.int v2]) (rest := []) hG d_C_bring_9 mi_C_knownTo mv_C_knownTo lk_C_135 ⟨rfl, rfl, Nat.le_of_ble_eq_true rfl⟩ cq_1 cc_0 (c_C_knownTo hG zm4) rfl (Nat.le_trans jcN (Nat.le_of_ble_eq_true rfl)) ?_
    refine J.iload_n 1 d_C_bring_12 rfl rfl ?_
    obtain ⟨x5, m6, zm6, h⟩ := jbd_some h
    refine J.cSi Y_C_isIn (As := [.int x3, .int v1]) (rest := []) d_C_bring_13 mi_C_isIn ms_C_isIn lk_C_110 ⟨rfl, rfl, Nat.le_of_ble_eq_true rfl⟩ (c_C_isIn hG zm6) rfl (Nat.le_trans jcN (Nat.le_of_ble_eq_true rfl)) ?_
    refine J.nop (pc' := 16) rfl ?_
    refine J.if_ne 40 d_C_bring_16 rfl (fun c => ?_) (fun c => ?_)
    · rw [if_neg c] at h
      cases h
      exact J.vret d_C_bring_40 rfl rfl
    · rw [if_pos c] at h
      refine J.aload_n 0 d_C_bring_19 rfl rfl ?_
      refine J.getF (n := 65) hG d_C_bring_20 fl_C_52 ck_1_9 rfl ?_
      refine J.iload_n 2 d_C_bring_23 rfl rfl ?_
      refine J.iload_n 1 d_C_bring_24 rfl rfl ?_
      obtain ⟨x7, m8, zm8, h⟩ := jbd_some h
      refine J.cVi Y_D_holds (As := [.int v2, .int v1]) (rest := []) hG d_C_bring_25 mi_D_holds mv_D_holds lk_C_155 ⟨rfl, rfl, Nat.le_of_ble_eq_true rfl⟩ cq_65 cc_6 (c_D_holds hG zm8) rfl (Nat.le_trans jcN (Nat.le_of_ble_eq_true rfl)) ?_
      refine J.if_ne 40 d_C_bring_28 rfl (fun c => ?_) (fun c => ?_)
      · rw [if_neg c] at h
        cases h
        exact J.vret d_C_bring_40 rfl rfl
      · rw [if_pos c] at h
        refine J.aload_n 0 d_C_bring_31 rfl rfl ?_
        refine J.nop (pc' := 32) rfl ?_
        refine J.getF (n := 65) hG d_C_bring_32 fl_C_52 ck_1_9 rfl ?_
        refine J.iload_n 2 d_C_bring_35 rfl rfl ?_
        refine J.iload_n 1 d_C_bring_36 rfl rfl ?_
        obtain ⟨u9, m10, zm10, h⟩ := jbd_some h
        refine J.cVv Y_D_put (As := [.int v2, .int v1]) (rest := []) hG d_C_bring_37 mi_D_put mv_D_put lk_C_355 ⟨rfl, rfl, Nat.le_of_ble_eq_true rfl⟩ cq_65 cc_6 (c_D_put hG zm10) rfl (Nat.le_trans jcN (Nat.le_of_ble_eq_true rfl)) ?_
        cases h
        exact J.vret d_C_bring_40 rfl rfl

def lp_C_bringCopies_2 (k79 : jMem → Option (Unit × jMem)) : Nat → Int32 → jMem → Option (Unit × jMem)
  | 0, _, _ => none
  | n + 1, v1, m =>
    if (m 45 10) ≤ v1 then
      k79 m
    else
      jld 1 m 64 v1 fun x1 =>
      if x1 = 0 then
        jld 1 m 63 v1 fun x2 =>
        if x2 = (m 1 6) then
          jst 1 m 64 v1 (1 : Int32) fun m3 =>
          jld 1 m3 60 v1 fun x4 =>
          jld 1 m3 62 v1 fun x5 =>
          jbd (f_C_bring x4 x5 m3) fun u6 m7 =>
          lp_C_bringCopies_2 k79 n (v1 + (1 : Int32)) m7
        else
          lp_C_bringCopies_2 k79 n (v1 + (1 : Int32)) m
      else
        lp_C_bringCopies_2 k79 n (v1 + (1 : Int32)) m
def f_C_bringCopies (m : jMem) : Option (Unit × jMem) :=
  lp_C_bringCopies_2 (fun m8 =>
    some ((), m8)) 5000 (0 : Int32) m
theorem jlp_C_bringCopies_2 {G : jG} (hG : jFul G) (k79 : jMem → Option (Unit × jMem))
    (hk79 : ∀ (m : jMem) (r : (Unit × jMem)), k79 m = some r → J G Y_C_bringCopies 79 [] [] m (jrv r)) : ∀ (n : Nat) (v1 : Int32) (m : jMem) (r : (Unit × jMem)), lp_C_bringCopies_2 k79 n v1 m = some r → J G Y_C_bringCopies 2 [(0, jr G 1), (1, .int v1)] [] m (jrv r) := by
  intro n
  induction n with
  | zero => intro v1 m r h; unfold lp_C_bringCopies_2 at h; cases h
  | succ n ih =>
    intro v1 m r h
    unfold lp_C_bringCopies_2 at h
    refine J.iload_n 1 d_C_bringCopies_2 rfl rfl ?_
    refine J.aload_n 0 d_C_bringCopies_3 rfl rfl ?_
    refine J.getF (n := 45) hG d_C_bringCopies_4 fl_C_45 ck_1_8 rfl ?_
    refine J.getI hG d_C_bringCopies_7 fl_C_327 ck_45_10 ?_
    refine J.icmp_ge 79 d_C_bringCopies_10 rfl (fun c => ?_) (fun c => ?_)
    · rw [if_pos c] at h
      exact J.sub (ls' := []) [] rfl (hk79  m _ h)
    · rw [if_neg c] at h
      refine J.aload_n 0 d_C_bringCopies_13 rfl rfl ?_
      refine J.getF (n := 45) hG d_C_bringCopies_14 fl_C_45 ck_1_8 rfl ?_
      refine J.getF (n := 64) hG d_C_bringCopies_17 fl_C_129 ck_45_9 rfl ?_
      refine J.nop (pc' := 20) rfl ?_
      refine J.iload_n 1 d_C_bringCopies_20 rfl rfl ?_
      obtain ⟨x1, ex1, g, h⟩ := jld_some h
      refine J.il hG d_C_bringCopies_21 g ex1 ?_
      refine J.if_ne 73 d_C_bringCopies_22 rfl (fun c => ?_) (fun c => ?_)
      · rw [if_neg c] at h
        refine J.iinc 1 (v := (1 : Int32)) (lv := [(1, .int (v1 + (1 : Int32))), (0, jr G 1)]) d_C_bringCopies_73 rfl ki_1 (by decide) rfl ?_
        refine J.goto 2 d_C_bringCopies_76 rfl ?_
        exact J.sub (ls' := [(0, jr G 1), (1, .int (v1 + (1 : Int32)))]) [1, 0] rfl (ih (v1 + (1 : Int32)) m _ h)
      · rw [if_pos c] at h
        refine J.aload_n 0 d_C_bringCopies_25 rfl rfl ?_
        refine J.getF (n := 45) hG d_C_bringCopies_26 fl_C_45 ck_1_8 rfl ?_
        refine J.getF (n := 63) hG d_C_bringCopies_29 fl_C_204 ck_45_8 rfl ?_
        refine J.iload_n 1 d_C_bringCopies_32 rfl rfl ?_
        obtain ⟨x2, ex2, g, h⟩ := jld_some h
        refine J.il hG d_C_bringCopies_33 g ex2 ?_
        refine J.nop (pc' := 34) rfl ?_
        refine J.aload_n 0 d_C_bringCopies_34 rfl rfl ?_
        refine J.getI hG d_C_bringCopies_35 fl_C_139 ck_1_6 ?_
        refine J.icmp_ne 73 d_C_bringCopies_38 rfl (fun c => ?_) (fun c => ?_)
        · rw [if_neg c] at h
          refine J.iinc 1 (v := (1 : Int32)) (lv := [(1, .int (v1 + (1 : Int32))), (0, jr G 1)]) d_C_bringCopies_73 rfl ki_1 (by decide) rfl ?_
          refine J.goto 2 d_C_bringCopies_76 rfl ?_
          exact J.sub (ls' := [(0, jr G 1), (1, .int (v1 + (1 : Int32)))]) [1, 0] rfl (ih (v1 + (1 : Int32)) m _ h)
        · rw [if_pos c] at h
          refine J.aload_n 0 d_C_bringCopies_41 rfl rfl ?_
          refine J.getF (n := 45) hG d_C_bringCopies_42 fl_C_45 ck_1_8 rfl ?_
          refine J.getF (n := 64) hG d_C_bringCopies_45 fl_C_129 ck_45_9 rfl ?_
          refine J.iload_n 1 d_C_bringCopies_48 rfl rfl ?_
          refine J.iconst (v := (1 : Int32)) d_C_bringCopies_49 ki_1 ?_
          refine J.nop (pc' := 50) rfl ?_
          obtain ⟨m3, hm3, g, h⟩ := jst_some h
          refine J.is hG d_C_bringCopies_50 g hm3 ?_
          refine J.aload_n 0 d_C_bringCopies_51 rfl rfl ?_
          refine J.aload_n 0 d_C_bringCopies_52 rfl rfl ?_
          refine J.getF (n := 45) hG d_C_bringCopies_53 fl_C_45 ck_1_8 rfl ?_
          refine J.getF (n := 60) hG d_C_bringCopies_56 fl_C_198 ck_45_5 rfl ?_
          refine J.iload_n 1 d_C_bringCopies_59 rfl rfl ?_
          obtain ⟨x4, ex4, g, h⟩ := jld_some h
          refine J.il hG d_C_bringCopies_60 g ex4 ?_
          refine J.aload_n 0 d_C_bringCopies_61 rfl rfl ?_
          refine J.nop (pc' := 62) rfl ?_
          refine J.getF (n := 45) hG d_C_bringCopies_62 fl_C_45 ck_1_8 rfl ?_
          refine J.getF (n := 62) hG d_C_bringCopies_65 fl_C_201 ck_45_7 rfl ?_
          refine J.iload_n 1 d_C_bringCopies_68 rfl rfl ?_
          obtain ⟨x5, ex5, g, h⟩ := jld_some h
          refine J.il hG d_C_bringCopies_69 g ex5 ?_
          obtain ⟨u6, m7, zm7, h⟩ := jbd_some h
          refine J.cVv Y_C_bring (As := [.int x4, .int x5]) (rest := []) hG d_C_bringCopies_70 mi_C_bring mv_C_bring lk_C_352 ⟨rfl, rfl, Nat.le_of_ble_eq_true rfl⟩ cq_1 cc_0 (c_C_bring hG zm7) rfl (Nat.le_trans jcN (Nat.le_of_ble_eq_true rfl)) ?_
          refine J.iinc 1 (v := (1 : Int32)) (lv := [(1, .int (v1 + (1 : Int32))), (0, jr G 1)]) d_C_bringCopies_73 rfl ki_1 (by decide) rfl ?_
          refine J.goto 2 d_C_bringCopies_76 rfl ?_
          exact J.sub (ls' := [(0, jr G 1), (1, .int (v1 + (1 : Int32)))]) [1, 0] rfl (ih (v1 + (1 : Int32)) m7 _ h)
theorem c_C_bringCopies {G : jG} (hG : jFul G) {m : jMem} {r : (Unit × jMem)} (h : f_C_bringCopies m = some r) : jCt G Y_C_bringCopies [jr G 1] m (jrv r) := by
  refine jCt.ov (ls := [(0, jr G 1)]) mi_C_bringCopies (jAvR jAvN) (Nat.le_of_ble_eq_true rfl) ?_ ⟨rfl, rfl⟩
  unfold f_C_bringCopies at h
  refine J.iconst (v := (0 : Int32)) d_C_bringCopies_0 ki_0 ?_
  refine J.istore_n (lv := [(1, .int (0 : Int32)), (0, jr G 1)]) d_C_bringCopies_1 rfl (by decide) rfl ?_
  refine J.sub (ls' := [(0, jr G 1), (1, .int (0 : Int32))]) [1, 0] rfl ?_
  refine jlp_C_bringCopies_2 hG _ ?_ _ (0 : Int32) m _ h
  intro m8 r h
  cases h
  exact J.vret d_C_bringCopies_79 rfl rfl

def f_C_missing (v1 : Int32) (v2 : Int32) (m : jMem) : Option (Int32 × jMem) :=
  jbd (f_C_isWriter v1 m) fun x1 m2 =>
  if x1 = 0 then
    some ((0 : Int32), m2)
  else
    jbd (f_L_isLetter v2 m2) fun x3 m4 =>
    if x3 = 0 then
      some ((0 : Int32), m4)
    else
      jld 1 m4 43 v1 fun x5 =>
      jld 1 m4 75 v1 fun x6 =>
      jgd (jhok (m4 1 2).toNatClampNeg) (
        jbd (f_H_ruleOf (m4 1 2).toNatClampNeg v1 m4) fun q7 m8 =>
        jgd (jok q7 ∧ jok 1013) (if q7 = 1013 then
          jld 1 m8 30 v2 fun x13 =>
          jld 1 m8 42 x13 fun x14 =>
          jbd (f_C_bit v2 m8) fun x15 m16 =>
          some ((((x5 &&& (x6 ^^^ (-1 : Int32))) &&& x14) &&& (x15 - (1 : Int32))), m16)
        else
          jgd (jok q7 ∧ jok 1014) (if q7 = 1014 then
            jbd (f_L_answered v2 m8) fun x11 m12 =>
            some (((x5 &&& (x6 ^^^ (-1 : Int32))) &&& x11), m12)
          else
            jgd (jok q7 ∧ jok 1015) (if q7 = 1015 then
              jld 1 m8 37 v2 fun x10 =>
              some (((x5 &&& (x6 ^^^ (-1 : Int32))) &&& x10), m8)
            else
              some ((0 : Int32), m8)))))
theorem c_C_missing {G : jG} (hG : jFul G) {v1 : Int32} {v2 : Int32} {m : jMem} {r : (Int32 × jMem)} (h : f_C_missing v1 v2 m = some r) : jCt G Y_C_missing [jr G 1, .int v1, .int v2] m (jri r) := by
  refine jCt.ov (ls := [(0, jr G 1), (1, .int v1), (2, .int v2)]) mi_C_missing (jAvR (jAvI (jAvI jAvN))) (Nat.le_of_ble_eq_true rfl) ?_ ⟨rfl, rfl⟩
  unfold f_C_missing at h
  refine J.iload_n 1 d_C_missing_0 rfl rfl ?_
  obtain ⟨x1, m2, zm2, h⟩ := jbd_some h
  refine J.cSi Y_C_isWriter (As := [.int v1]) (rest := []) d_C_missing_1 mi_C_isWriter ms_C_isWriter lk_C_102 ⟨rfl, rfl, Nat.le_of_ble_eq_true rfl⟩ (c_C_isWriter hG zm2) rfl (Nat.le_trans jcN (Nat.le_of_ble_eq_true rfl)) ?_
  refine J.if_eq 18 d_C_missing_4 rfl (fun c => ?_) (fun c => ?_)
  · rw [if_pos c] at h
    refine J.iconst (v := (0 : Int32)) d_C_missing_18 ki_0 ?_
    cases h
    exact J.iret d_C_missing_19 rfl (vp_nar_int _) rfl
  · rw [if_neg c] at h
    refine J.aload_n 0 d_C_missing_7 rfl rfl ?_
    refine J.getF (n := 29) hG d_C_missing_8 fl_C_38 ck_1_7 rfl ?_
    refine J.iload_n 2 d_C_missing_11 rfl rfl ?_
    obtain ⟨x3, m4, zm4, h⟩ := jbd_some h
    refine J.cVi Y_L_isLetter (As := [.int v2]) (rest := []) hG d_C_missing_12 mi_L_isLetter mv_L_isLetter lk_C_132 ⟨rfl, rfl, Nat.le_of_ble_eq_true rfl⟩ cq_29 cc_4 (c_L_isLetter hG zm4) rfl (Nat.le_trans jcN (Nat.le_of_ble_eq_true rfl)) ?_
    refine J.if_ne 20 d_C_missing_15 rfl (fun c => ?_) (fun c => ?_)
    · rw [if_neg c] at h
      refine J.aload_n 0 d_C_missing_20 rfl rfl ?_
      refine J.getF (n := 29) hG d_C_missing_21 fl_C_38 ck_1_7 rfl ?_
      refine J.getF (n := 43) hG d_C_missing_24 fl_C_371 ck_29_13 rfl ?_
      refine J.iload_n 1 d_C_missing_27 rfl rfl ?_
      obtain ⟨x5, ex5, g, h⟩ := jld_some h
      refine J.il hG d_C_missing_28 g ex5 ?_
      refine J.aload_n 0 d_C_missing_29 rfl rfl ?_
      refine J.getF (n := 65) hG d_C_missing_30 fl_C_52 ck_1_9 rfl ?_
      refine J.getF (n := 75) hG d_C_missing_33 fl_C_345 ck_65_3 rfl ?_
      refine J.nop (pc' := 36) rfl ?_
      refine J.iload_n 1 d_C_missing_36 rfl rfl ?_
      obtain ⟨x6, ex6, g, h⟩ := jld_some h
      refine J.il hG d_C_missing_37 g ex6 ?_
      refine J.iconst (v := (-1 : Int32)) d_C_missing_38 ki_m1 ?_
      refine J.ixor d_C_missing_39 ?_
      refine J.iand d_C_missing_40 ?_
      refine J.istore_n (lv := [(3, .int (x5 &&& (x6 ^^^ (-1 : Int32)))), (0, jr G 1), (1, .int v1), (2, .int v2)]) d_C_missing_41 rfl (by decide) rfl ?_
      refine J.aload_n 1 d_C_missing_42 rfl rfl ?_
      refine J.getM hG d_C_missing_43 fl_C_16 ck_1_2 ?_
      refine J.nop (pc' := 46) rfl ?_
      refine J.iload_n 2 d_C_missing_46 rfl rfl ?_
      obtain ⟨g9, h⟩ := jgd_some h
      obtain ⟨q7, m8, zm8, h⟩ := jbd_some h
      refine J.cVr Y_H_ruleOf (As := [.int v1]) (rest := []) hG d_C_missing_47 mi_H_ruleOf mv_H_ruleOf lk_C_361 ⟨rfl, rfl, Nat.le_of_ble_eq_true rfl⟩ (jhok_q g9) cc_1 (c_H_ruleOf hG g9 zm8) rfl (Nat.le_trans jcN (Nat.le_of_ble_eq_true rfl)) ?_
      refine J.astore (lv := [(4, jr G q7), (3, .int (x5 &&& (x6 ^^^ (-1 : Int32)))), (0, jr G 1), (1, .int v1), (2, .int v2)]) d_C_missing_50 (by decide) rfl ?_
      refine J.aload 0 d_C_missing_52 rfl ?_
      refine J.gets (i := 12) (nm := "FIRST") d_C_missing_54 (by decide) rfl (jt_4 87 rfl rfl) ?_
      obtain ⟨g, h⟩ := jgd_some h
      refine J.acmp_ne 87 d_C_missing_57 rfl g.1 g.2 (fun c => ?_) (fun c => ?_)
      · rw [if_neg c] at h
        refine J.aload 0 d_C_missing_87 rfl ?_
        refine J.gets (i := 13) (nm := "ANSWERS") d_C_missing_89 (by decide) rfl (jt_4 90 rfl rfl) ?_
        obtain ⟨g, h⟩ := jgd_some h
        refine J.acmp_ne 106 d_C_missing_92 rfl g.1 g.2 (fun c => ?_) (fun c => ?_)
        · rw [if_neg c] at h
          refine J.aload 0 d_C_missing_106 rfl ?_
          refine J.gets (i := 14) (nm := "SEEN") d_C_missing_108 (by decide) rfl (jt_4 93 rfl rfl) ?_
          obtain ⟨g, h⟩ := jgd_some h
          refine J.acmp_ne 128 d_C_missing_111 rfl g.1 g.2 (fun c => ?_) (fun c => ?_)
          · rw [if_neg c] at h
            refine J.iconst (v := (0 : Int32)) d_C_missing_128 ki_0 ?_
            cases h
            exact J.iret d_C_missing_129 rfl (vp_nar_int _) rfl
          · rw [if_pos c] at h
            refine J.iload_n 1 d_C_missing_114 rfl rfl ?_
            refine J.aload_n 2 d_C_missing_115 rfl rfl ?_
            refine J.getF (n := 29) hG d_C_missing_116 fl_C_38 ck_1_7 rfl ?_
            refine J.getF (n := 37) hG d_C_missing_119 fl_C_211 ck_29_7 rfl ?_
            refine J.iload_n 4 d_C_missing_122 rfl rfl ?_
            refine J.nop (pc' := 123) rfl ?_
            obtain ⟨x10, ex10, g, h⟩ := jld_some h
            refine J.il hG d_C_missing_123 g ex10 ?_
            refine J.iand d_C_missing_124 ?_
            refine J.goto 129 d_C_missing_125 rfl ?_
            cases h
            exact J.iret d_C_missing_129 rfl (vp_nar_int _) rfl
        · rw [if_pos c] at h
          refine J.iload_n 1 d_C_missing_95 rfl rfl ?_
          refine J.aload_n 2 d_C_missing_96 rfl rfl ?_
          refine J.getF (n := 29) hG d_C_missing_97 fl_C_38 ck_1_7 rfl ?_
          refine J.iload_n 4 d_C_missing_100 rfl rfl ?_
          obtain ⟨x11, m12, zm12, h⟩ := jbd_some h
          refine J.cVi Y_L_answered (As := [.int v2]) (rest := [.int (x5 &&& (x6 ^^^ (-1 : Int32)))]) hG d_C_missing_101 mi_L_answered mv_L_answered lk_C_380 ⟨rfl, rfl, Nat.le_of_ble_eq_true rfl⟩ cq_29 cc_4 (c_L_answered hG zm12) rfl (Nat.le_trans (jcI jcN) (Nat.le_of_ble_eq_true rfl)) ?_
          refine J.nop (pc' := 104) rfl ?_
          refine J.iand d_C_missing_104 ?_
          cases h
          exact J.iret d_C_missing_105 rfl (vp_nar_int _) rfl
      · rw [if_pos c] at h
        refine J.iload_n 1 d_C_missing_60 rfl rfl ?_
        refine J.aload_n 2 d_C_missing_61 rfl rfl ?_
        refine J.nop (pc' := 62) rfl ?_
        refine J.getF (n := 29) hG d_C_missing_62 fl_C_38 ck_1_7 rfl ?_
        refine J.getF (n := 42) hG d_C_missing_65 fl_C_342 ck_29_12 rfl ?_
        refine J.aload_n 2 d_C_missing_68 rfl rfl ?_
        refine J.getF (n := 29) hG d_C_missing_69 fl_C_38 ck_1_7 rfl ?_
        refine J.getF (n := 30) hG d_C_missing_72 fl_C_172 ck_29_0 rfl ?_
        refine J.iload_n 4 d_C_missing_75 rfl rfl ?_
        obtain ⟨x13, ex13, g, h⟩ := jld_some h
        refine J.il hG d_C_missing_76 g ex13 ?_
        obtain ⟨x14, ex14, g, h⟩ := jld_some h
        refine J.il hG d_C_missing_77 g ex14 ?_
        refine J.nop (pc' := 78) rfl ?_
        refine J.iand d_C_missing_78 ?_
        refine J.iload_n 4 d_C_missing_79 rfl rfl ?_
        obtain ⟨x15, m16, zm16, h⟩ := jbd_some h
        refine J.cSi Y_C_bit (As := [.int v2]) (rest := [.int ((x5 &&& (x6 ^^^ (-1 : Int32))) &&& x14)]) d_C_missing_80 mi_C_bit ms_C_bit lk_C_262 ⟨rfl, rfl, Nat.le_of_ble_eq_true rfl⟩ (c_C_bit hG zm16) rfl (Nat.le_trans (jcI jcN) (Nat.le_of_ble_eq_true rfl)) ?_
        refine J.iconst (v := (1 : Int32)) d_C_missing_83 ki_1 ?_
        refine J.isub d_C_missing_84 ?_
        refine J.iand d_C_missing_85 ?_
        cases h
        exact J.iret d_C_missing_86 rfl (vp_nar_int _) rfl
    · rw [if_pos c] at h
      refine J.nop (pc' := 18) rfl ?_
      refine J.iconst (v := (0 : Int32)) d_C_missing_18 ki_0 ?_
      cases h
      exact J.iret d_C_missing_19 rfl (vp_nar_int _) rfl

def lp_C_firstThatRuleLets_18 (v1 : Int32) (k50 : Int32 → jMem → Option (Int32 × jMem)) (k58 : jMem → Option (Int32 × jMem)) : Nat → Int32 → jMem → Option (Int32 × jMem)
  | 0, _, _ => none
  | n + 1, v2, m =>
    jld 1 m 73 v1 fun x4 =>
    if x4 ≤ v2 then
      k58 m
    else
      jbd (f_D_letterAt v1 v2 m) fun x5 m6 =>
      jbd (f_C_missing v1 x5 m6) fun x7 m8 =>
      if x7 = 0 then
        k50 x5 m8
      else
        lp_C_firstThatRuleLets_18 v1 k50 k58 n (v2 + (1 : Int32)) m8
def f_C_firstThatRuleLets (v1 : Int32) (m : jMem) : Option (Int32 × jMem) :=
  jgd (jhok (m 1 2).toNatClampNeg) (
    jbd (f_H_ruleOf (m 1 2).toNatClampNeg v1 m) fun q1 m2 =>
    jgd (jok q1 ∧ jok 1011) (if q1 = 1011 then
      some ((-1 : Int32), m2)
    else
      lp_C_firstThatRuleLets_18 v1 (fun w10 m9 =>
        some (w10, m9)) (fun m11 =>
        some ((-1 : Int32), m11)) 5000 (0 : Int32) m2))
theorem jlp_C_firstThatRuleLets_18 {G : jG} (hG : jFul G) (v1 : Int32) (k50 : Int32 → jMem → Option (Int32 × jMem)) (k58 : jMem → Option (Int32 × jMem))
    (hk50 : ∀ (v3 : Int32) (m : jMem) (r : (Int32 × jMem)), k50 v3 m = some r → J G Y_C_firstThatRuleLets 50 [(3, .int v3)] [] m (jri r))
    (hk58 : ∀ (m : jMem) (r : (Int32 × jMem)), k58 m = some r → J G Y_C_firstThatRuleLets 58 [] [] m (jri r)) : ∀ (n : Nat) (v2 : Int32) (m : jMem) (r : (Int32 × jMem)), lp_C_firstThatRuleLets_18 v1 k50 k58 n v2 m = some r → J G Y_C_firstThatRuleLets 18 [(0, jr G 1), (1, .int v1), (2, .int v2)] [] m (jri r) := by
  intro n
  induction n with
  | zero => intro v2 m r h; unfold lp_C_firstThatRuleLets_18 at h; cases h
  | succ n ih =>
    intro v2 m r h
    unfold lp_C_firstThatRuleLets_18 at h
    refine J.iload_n 2 d_C_firstThatRuleLets_18 rfl rfl ?_
    refine J.aload_n 0 d_C_firstThatRuleLets_19 rfl rfl ?_
    refine J.getF (n := 65) hG d_C_firstThatRuleLets_20 fl_C_52 ck_1_9 rfl ?_
    refine J.getF (n := 73) hG d_C_firstThatRuleLets_23 fl_C_162 ck_65_1 rfl ?_
    refine J.iload_n 1 d_C_firstThatRuleLets_26 rfl rfl ?_
    obtain ⟨x4, ex4, g, h⟩ := jld_some h
    refine J.il hG d_C_firstThatRuleLets_27 g ex4 ?_
    refine J.icmp_ge 58 d_C_firstThatRuleLets_28 rfl (fun c => ?_) (fun c => ?_)
    · rw [if_pos c] at h
      exact J.sub (ls' := []) [] rfl (hk58  m _ h)
    · rw [if_neg c] at h
      refine J.aload_n 0 d_C_firstThatRuleLets_31 rfl rfl ?_
      refine J.nop (pc' := 32) rfl ?_
      refine J.getF (n := 65) hG d_C_firstThatRuleLets_32 fl_C_52 ck_1_9 rfl ?_
      refine J.iload_n 1 d_C_firstThatRuleLets_35 rfl rfl ?_
      refine J.iload_n 2 d_C_firstThatRuleLets_36 rfl rfl ?_
      obtain ⟨x5, m6, zm6, h⟩ := jbd_some h
      refine J.cVi Y_D_letterAt (As := [.int v1, .int v2]) (rest := []) hG d_C_firstThatRuleLets_37 mi_D_letterAt mv_D_letterAt lk_C_205 ⟨rfl, rfl, Nat.le_of_ble_eq_true rfl⟩ cq_65 cc_6 (c_D_letterAt hG zm6) rfl (Nat.le_trans jcN (Nat.le_of_ble_eq_true rfl)) ?_
      refine J.istore_n (lv := [(3, .int x5), (0, jr G 1), (1, .int v1), (2, .int v2)]) d_C_firstThatRuleLets_40 rfl (by decide) rfl ?_
      refine J.aload_n 1 d_C_firstThatRuleLets_41 rfl rfl ?_
      refine J.iload_n 2 d_C_firstThatRuleLets_42 rfl rfl ?_
      refine J.iload_n 0 d_C_firstThatRuleLets_43 rfl rfl ?_
      refine J.nop (pc' := 44) rfl ?_
      obtain ⟨x7, m8, zm8, h⟩ := jbd_some h
      refine J.cVi Y_C_missing (As := [.int v1, .int x5]) (rest := []) hG d_C_firstThatRuleLets_44 mi_C_missing mv_C_missing lk_C_250 ⟨rfl, rfl, Nat.le_of_ble_eq_true rfl⟩ cq_1 cc_0 (c_C_missing hG zm8) rfl (Nat.le_trans jcN (Nat.le_of_ble_eq_true rfl)) ?_
      refine J.if_ne 52 d_C_firstThatRuleLets_47 rfl (fun c => ?_) (fun c => ?_)
      · rw [if_neg c] at h
        refine J.iinc 3 (v := (1 : Int32)) (lv := [(2, .int (v2 + (1 : Int32))), (3, .int x5), (0, jr G 1), (1, .int v1)]) d_C_firstThatRuleLets_52 rfl ki_1 (by decide) rfl ?_
        refine J.goto 18 d_C_firstThatRuleLets_55 rfl ?_
        exact J.sub (ls' := [(0, jr G 1), (1, .int v1), (2, .int (v2 + (1 : Int32)))]) [2, 3, 0] rfl (ih (v2 + (1 : Int32)) m8 _ h)
      · rw [if_pos c] at h
        exact J.sub (ls' := [(3, .int x5)]) [0] rfl (hk50 x5 m8 _ h)
theorem c_C_firstThatRuleLets {G : jG} (hG : jFul G) {v1 : Int32} {m : jMem} {r : (Int32 × jMem)} (h : f_C_firstThatRuleLets v1 m = some r) : jCt G Y_C_firstThatRuleLets [jr G 1, .int v1] m (jri r) := by
  refine jCt.ov (ls := [(0, jr G 1), (1, .int v1)]) mi_C_firstThatRuleLets (jAvR (jAvI jAvN)) (Nat.le_of_ble_eq_true rfl) ?_ ⟨rfl, rfl⟩
  unfold f_C_firstThatRuleLets at h
  refine J.aload_n 0 d_C_firstThatRuleLets_0 rfl rfl ?_
  refine J.getM hG d_C_firstThatRuleLets_1 fl_C_16 ck_1_2 ?_
  refine J.iload_n 1 d_C_firstThatRuleLets_4 rfl rfl ?_
  obtain ⟨g3, h⟩ := jgd_some h
  obtain ⟨q1, m2, zm2, h⟩ := jbd_some h
  refine J.cVr Y_H_ruleOf (As := [.int v1]) (rest := []) hG d_C_firstThatRuleLets_5 mi_H_ruleOf mv_H_ruleOf lk_C_361 ⟨rfl, rfl, Nat.le_of_ble_eq_true rfl⟩ (jhok_q g3) cc_1 (c_H_ruleOf hG g3 zm2) rfl (Nat.le_trans jcN (Nat.le_of_ble_eq_true rfl)) ?_
  refine J.gets (i := 10) (nm := "HAND") d_C_firstThatRuleLets_8 (by decide) rfl (jt_4 77 rfl rfl) ?_
  obtain ⟨g, h⟩ := jgd_some h
  refine J.acmp_ne 16 d_C_firstThatRuleLets_11 rfl g.1 g.2 (fun c => ?_) (fun c => ?_)
  · rw [if_neg c] at h
    refine J.iconst (v := (0 : Int32)) d_C_firstThatRuleLets_16 ki_0 ?_
    refine J.istore_n (lv := [(2, .int (0 : Int32)), (0, jr G 1), (1, .int v1)]) d_C_firstThatRuleLets_17 rfl (by decide) rfl ?_
    refine J.sub (ls' := [(0, jr G 1), (1, .int v1), (2, .int (0 : Int32))]) [1, 2, 0] rfl ?_
    refine jlp_C_firstThatRuleLets_18 hG v1 _ _ ?_ ?_ _ (0 : Int32) m2 _ h
    · intro w10 m9 r h
      refine J.iload_n 0 d_C_firstThatRuleLets_50 rfl rfl ?_
      cases h
      exact J.iret d_C_firstThatRuleLets_51 rfl (vp_nar_int _) rfl
    · intro m11 r h
      refine J.iconst (v := (-1 : Int32)) d_C_firstThatRuleLets_58 ki_m1 ?_
      cases h
      exact J.iret d_C_firstThatRuleLets_59 rfl (vp_nar_int _) rfl
  · rw [if_pos c] at h
    refine J.iconst (v := (-1 : Int32)) d_C_firstThatRuleLets_14 ki_m1 ?_
    cases h
    exact J.iret d_C_firstThatRuleLets_15 rfl (vp_nar_int _) rfl

def f_C_gatherFacts (v1 : Int32) (v2 : Int32) (m : jMem) : Option (Unit × jMem) :=
  jld 1 m 30 v2 fun x1 =>
  jst 1 m 28 (0 : Int32) x1 fun m2 =>
  jld 1 m2 32 v2 fun x3 =>
  jst 1 m2 28 (1 : Int32) x3 fun m4 =>
  jld 1 m4 31 v2 fun x5 =>
  jst 1 m4 28 (2 : Int32) ((m4 1 6) - x5) fun m6 =>
  jbd (f_C_knownTo v1 m6) fun x7 m8 =>
  jbd (f_JI_bitCount x7 m8) fun x9 m10 =>
  jst 1 m10 28 (3 : Int32) x9 fun m11 =>
  jld 1 m11 41 v2 fun x12 =>
  jst 1 m11 28 (4 : Int32) x12 fun m13 =>
  jbd (f_L_answered v2 m13) fun x14 m15 =>
  jbd (f_JI_bitCount x14 m15) fun x16 m17 =>
  jst 1 m17 28 (5 : Int32) x16 fun m18 =>
  jld 1 m18 42 v1 fun x19 =>
  jbd (f_JI_bitCount x19 m18) fun x20 m21 =>
  jst 1 m21 28 (6 : Int32) x20 fun m22 =>
  some ((), m22)
theorem c_C_gatherFacts {G : jG} (hG : jFul G) {v1 : Int32} {v2 : Int32} {m : jMem} {r : (Unit × jMem)} (h : f_C_gatherFacts v1 v2 m = some r) : jCt G Y_C_gatherFacts [jr G 1, .int v1, .int v2] m (jrv r) := by
  refine jCt.ov (ls := [(0, jr G 1), (1, .int v1), (2, .int v2)]) mi_C_gatherFacts (jAvR (jAvI (jAvI jAvN))) (Nat.le_of_ble_eq_true rfl) ?_ ⟨rfl, rfl⟩
  unfold f_C_gatherFacts at h
  refine J.aload_n 0 d_C_gatherFacts_0 rfl rfl ?_
  refine J.getF (n := 28) hG d_C_gatherFacts_1 fl_C_32 ck_1_5 rfl ?_
  refine J.iconst (v := (0 : Int32)) d_C_gatherFacts_4 ki_0 ?_
  refine J.aload_n 0 d_C_gatherFacts_5 rfl rfl ?_
  refine J.getF (n := 29) hG d_C_gatherFacts_6 fl_C_38 ck_1_7 rfl ?_
  refine J.getF (n := 30) hG d_C_gatherFacts_9 fl_C_172 ck_29_0 rfl ?_
  refine J.iload_n 2 d_C_gatherFacts_12 rfl rfl ?_
  obtain ⟨x1, ex1, g, h⟩ := jld_some h
  refine J.il hG d_C_gatherFacts_13 g ex1 ?_
  refine J.nop (pc' := 14) rfl ?_
  obtain ⟨m2, hm2, g, h⟩ := jst_some h
  refine J.is hG d_C_gatherFacts_14 g hm2 ?_
  refine J.aload_n 0 d_C_gatherFacts_15 rfl rfl ?_
  refine J.getF (n := 28) hG d_C_gatherFacts_16 fl_C_32 ck_1_5 rfl ?_
  refine J.iconst (v := (1 : Int32)) d_C_gatherFacts_19 ki_1 ?_
  refine J.aload_n 0 d_C_gatherFacts_20 rfl rfl ?_
  refine J.getF (n := 29) hG d_C_gatherFacts_21 fl_C_38 ck_1_7 rfl ?_
  refine J.getF (n := 32) hG d_C_gatherFacts_24 fl_C_178 ck_29_2 rfl ?_
  refine J.iload_n 2 d_C_gatherFacts_27 rfl rfl ?_
  refine J.nop (pc' := 28) rfl ?_
  obtain ⟨x3, ex3, g, h⟩ := jld_some h
  refine J.il hG d_C_gatherFacts_28 g ex3 ?_
  obtain ⟨m4, hm4, g, h⟩ := jst_some h
  refine J.is hG d_C_gatherFacts_29 g hm4 ?_
  refine J.aload_n 0 d_C_gatherFacts_30 rfl rfl ?_
  refine J.getF (n := 28) hG d_C_gatherFacts_31 fl_C_32 ck_1_5 rfl ?_
  refine J.iconst (v := (2 : Int32)) d_C_gatherFacts_34 ki_2 ?_
  refine J.aload_n 0 d_C_gatherFacts_35 rfl rfl ?_
  refine J.getI hG d_C_gatherFacts_36 fl_C_139 ck_1_6 ?_
  refine J.aload_n 0 d_C_gatherFacts_39 rfl rfl ?_
  refine J.nop (pc' := 40) rfl ?_
  refine J.getF (n := 29) hG d_C_gatherFacts_40 fl_C_38 ck_1_7 rfl ?_
  refine J.getF (n := 31) hG d_C_gatherFacts_43 fl_C_175 ck_29_1 rfl ?_
  refine J.iload_n 2 d_C_gatherFacts_46 rfl rfl ?_
  obtain ⟨x5, ex5, g, h⟩ := jld_some h
  refine J.il hG d_C_gatherFacts_47 g ex5 ?_
  refine J.isub d_C_gatherFacts_48 ?_
  obtain ⟨m6, hm6, g, h⟩ := jst_some h
  refine J.is hG d_C_gatherFacts_49 g hm6 ?_
  refine J.aload_n 0 d_C_gatherFacts_50 rfl rfl ?_
  refine J.getF (n := 28) hG d_C_gatherFacts_51 fl_C_32 ck_1_5 rfl ?_
  refine J.nop (pc' := 54) rfl ?_
  refine J.iconst (v := (3 : Int32)) d_C_gatherFacts_54 ki_3 ?_
  refine J.aload_n 0 d_C_gatherFacts_55 rfl rfl ?_
  refine J.iload_n 1 d_C_gatherFacts_56 rfl rfl ?_
  obtain ⟨x7, m8, zm8, h⟩ := jbd_some h
  refine J.cVi Y_C_knownTo (As := [.int v1]) (rest := [.int (3 : Int32), jr G 28]) hG d_C_gatherFacts_57 mi_C_knownTo mv_C_knownTo lk_C_135 ⟨rfl, rfl, Nat.le_of_ble_eq_true rfl⟩ cq_1 cc_0 (c_C_knownTo hG zm8) rfl (Nat.le_trans (jcI (jcR jcN)) (Nat.le_of_ble_eq_true rfl)) ?_
  obtain ⟨x9, m10, zm10, h⟩ := jbd_some h
  refine J.cSi Y_JI_bitCount (As := [.int x7]) (rest := [.int (3 : Int32), jr G 28]) d_C_gatherFacts_60 mi_JI_bitCount ms_JI_bitCount lk_C_282 ⟨rfl, rfl, Nat.le_of_ble_eq_true rfl⟩ (c_JI_bitCount hG zm10) rfl (Nat.le_trans (jcI (jcR jcN)) (Nat.le_of_ble_eq_true rfl)) ?_
  obtain ⟨m11, hm11, g, h⟩ := jst_some h
  refine J.is hG d_C_gatherFacts_63 g hm11 ?_
  refine J.aload_n 0 d_C_gatherFacts_64 rfl rfl ?_
  refine J.getF (n := 28) hG d_C_gatherFacts_65 fl_C_32 ck_1_5 rfl ?_
  refine J.nop (pc' := 68) rfl ?_
  refine J.iconst (v := (4 : Int32)) d_C_gatherFacts_68 ki_4 ?_
  refine J.aload_n 0 d_C_gatherFacts_69 rfl rfl ?_
  refine J.getF (n := 29) hG d_C_gatherFacts_70 fl_C_38 ck_1_7 rfl ?_
  refine J.getF (n := 41) hG d_C_gatherFacts_73 fl_C_218 ck_29_11 rfl ?_
  refine J.iload_n 2 d_C_gatherFacts_76 rfl rfl ?_
  obtain ⟨x12, ex12, g, h⟩ := jld_some h
  refine J.il hG d_C_gatherFacts_77 g ex12 ?_
  obtain ⟨m13, hm13, g, h⟩ := jst_some h
  refine J.is hG d_C_gatherFacts_78 g hm13 ?_
  refine J.aload_n 0 d_C_gatherFacts_79 rfl rfl ?_
  refine J.nop (pc' := 80) rfl ?_
  refine J.getF (n := 28) hG d_C_gatherFacts_80 fl_C_32 ck_1_5 rfl ?_
  refine J.iconst (v := (5 : Int32)) d_C_gatherFacts_83 ki_5 ?_
  refine J.aload_n 0 d_C_gatherFacts_84 rfl rfl ?_
  refine J.getF (n := 29) hG d_C_gatherFacts_85 fl_C_38 ck_1_7 rfl ?_
  refine J.iload_n 2 d_C_gatherFacts_88 rfl rfl ?_
  obtain ⟨x14, m15, zm15, h⟩ := jbd_some h
  refine J.cVi Y_L_answered (As := [.int v2]) (rest := [.int (5 : Int32), jr G 28]) hG d_C_gatherFacts_89 mi_L_answered mv_L_answered lk_C_380 ⟨rfl, rfl, Nat.le_of_ble_eq_true rfl⟩ cq_29 cc_4 (c_L_answered hG zm15) rfl (Nat.le_trans (jcI (jcR jcN)) (Nat.le_of_ble_eq_true rfl)) ?_
  obtain ⟨x16, m17, zm17, h⟩ := jbd_some h
  refine J.cSi Y_JI_bitCount (As := [.int x14]) (rest := [.int (5 : Int32), jr G 28]) d_C_gatherFacts_92 mi_JI_bitCount ms_JI_bitCount lk_C_282 ⟨rfl, rfl, Nat.le_of_ble_eq_true rfl⟩ (c_JI_bitCount hG zm17) rfl (Nat.le_trans (jcI (jcR jcN)) (Nat.le_of_ble_eq_true rfl)) ?_
  obtain ⟨m18, hm18, g, h⟩ := jst_some h
  refine J.is hG d_C_gatherFacts_95 g hm18 ?_
  refine J.nop (pc' := 96) rfl ?_
  refine J.aload_n 0 d_C_gatherFacts_96 rfl rfl ?_
  refine J.getF (n := 28) hG d_C_gatherFacts_97 fl_C_32 ck_1_5 rfl ?_
  refine J.bipush (v := (6 : Int32)) d_C_gatherFacts_100 kb_6 ?_
  refine J.aload_n 0 d_C_gatherFacts_102 rfl rfl ?_
  refine J.getF (n := 29) hG d_C_gatherFacts_103 fl_C_38 ck_1_7 rfl ?_
  refine J.getF (n := 42) hG d_C_gatherFacts_106 fl_C_342 ck_29_12 rfl ?_
  refine J.iload_n 1 d_C_gatherFacts_109 rfl rfl ?_
  obtain ⟨x19, ex19, g, h⟩ := jld_some h
  refine J.il hG d_C_gatherFacts_110 g ex19 ?_
  refine J.nop (pc' := 111) rfl ?_
  obtain ⟨x20, m21, zm21, h⟩ := jbd_some h
  refine J.cSi Y_JI_bitCount (As := [.int x19]) (rest := [.int (6 : Int32), jr G 28]) d_C_gatherFacts_111 mi_JI_bitCount ms_JI_bitCount lk_C_282 ⟨rfl, rfl, Nat.le_of_ble_eq_true rfl⟩ (c_JI_bitCount hG zm21) rfl (Nat.le_trans (jcI (jcR jcN)) (Nat.le_of_ble_eq_true rfl)) ?_
  obtain ⟨m22, hm22, g, h⟩ := jst_some h
  refine J.is hG d_C_gatherFacts_114 g hm22 ?_
  cases h
  exact J.vret d_C_gatherFacts_115 rfl rfl

def lp_C_takeUp_15 (v1 : Int32) (v2 : Int32) (k118 : jMem → Option (Unit × jMem)) : Nat → Int32 → jMem → Option (Unit × jMem)
  | 0, _, _ => none
  | n + 1, v3, m =>
    jgd (jhok (m 1 2).toNatClampNeg) (
      if (m (m 1 2).toNatClampNeg 7) ≤ v3 then
        k118 m
      else
        jgd (jhok (m 1 2).toNatClampNeg) (
          jld 1 m ((m 1 2).toNatClampNeg + 3) v3 fun x5 =>
          jbd (f_C_isIn x5 v1 m) fun x6 m7 =>
          if x6 = 0 then
            lp_C_takeUp_15 v1 v2 k118 n (v3 + (1 : Int32)) m7
          else
            jbd (f_C_gatherFacts v1 v2 m7) fun u8 m9 =>
            jgd (jhok (m9 1 2).toNatClampNeg) (
              jbd (f_H_holds (m9 1 2).toNatClampNeg v3 28 m9) fun x10 m11 =>
              if x10 = 0 then
                lp_C_takeUp_15 v1 v2 k118 n (v3 + (1 : Int32)) m11
              else
                jgd (jhok (m11 1 2).toNatClampNeg) (
                  jld 2 m11 ((m11 1 2).toNatClampNeg + 2) v3 fun x14 =>
                  if x14 = 0 then
                    jld 1 m11 30 v2 fun x15 =>
                    jbd (f_C_bit x15 m11) fun x16 m17 =>
                    jbd (f_C_enter v1 x16 (0 : Int32) v2 (-1 : Int32) m17) fun x18 m19 =>
                    lp_C_takeUp_15 v1 v2 k118 n (v3 + (1 : Int32)) m19
                  else
                    jbd (f_C_bit v1 m11) fun x20 m21 =>
                    jbd (f_C_enter v1 ((63 : Int32) &&& (x20 ^^^ (-1 : Int32))) (0 : Int32) v2 (-1 : Int32) m21) fun x22 m23 =>
                    lp_C_takeUp_15 v1 v2 k118 n (v3 + (1 : Int32)) m23))))
def f_C_takeUp (v1 : Int32) (v2 : Int32) (m : jMem) : Option (Unit × jMem) :=
  jbd (f_D_take v1 v2 (m 1 6) m) fun u1 m2 =>
  lp_C_takeUp_15 v1 v2 (fun m24 =>
    some ((), m24)) 5000 (0 : Int32) m2
theorem jlp_C_takeUp_15 {G : jG} (hG : jFul G) (v1 : Int32) (v2 : Int32) (k118 : jMem → Option (Unit × jMem))
    (hk118 : ∀ (m : jMem) (r : (Unit × jMem)), k118 m = some r → J G Y_C_takeUp 118 [] [] m (jrv r)) : ∀ (n : Nat) (v3 : Int32) (m : jMem) (r : (Unit × jMem)), lp_C_takeUp_15 v1 v2 k118 n v3 m = some r → J G Y_C_takeUp 15 [(0, jr G 1), (1, .int v1), (2, .int v2), (3, .int v3)] [] m (jrv r) := by
  intro n
  induction n with
  | zero => intro v3 m r h; unfold lp_C_takeUp_15 at h; cases h
  | succ n ih =>
    intro v3 m r h
    unfold lp_C_takeUp_15 at h
    refine J.iload_n 3 d_C_takeUp_15 rfl rfl ?_
    refine J.aload_n 0 d_C_takeUp_16 rfl rfl ?_
    refine J.getM hG d_C_takeUp_17 fl_C_16 ck_1_2 ?_
    obtain ⟨g3, h⟩ := jgd_some h
    refine J.getI hG d_C_takeUp_20 fl_C_337 (jhok_I g3 7 rfl) ?_
    refine J.icmp_ge 118 d_C_takeUp_23 rfl (fun c => ?_) (fun c => ?_)
    · rw [if_pos c] at h
      exact J.sub (ls' := []) [] rfl (hk118  m _ h)
    · rw [if_neg c] at h
      refine J.aload_n 0 d_C_takeUp_26 rfl rfl ?_
      refine J.getM hG d_C_takeUp_27 fl_C_16 ck_1_2 ?_
      obtain ⟨g4, h⟩ := jgd_some h
      refine J.getF (n := (m 1 2).toNatClampNeg + 3) hG d_C_takeUp_30 fl_C_389 (jhok_F g4 4 rfl) (jhok_fx g4 4 3 rfl rfl) ?_
      refine J.nop (pc' := 33) rfl ?_
      refine J.iload_n 3 d_C_takeUp_33 rfl rfl ?_
      obtain ⟨x5, ex5, g, h⟩ := jld_some h
      refine J.il hG d_C_takeUp_34 g ex5 ?_
      refine J.iload_n 1 d_C_takeUp_35 rfl rfl ?_
      obtain ⟨x6, m7, zm7, h⟩ := jbd_some h
      refine J.cSi Y_C_isIn (As := [.int x5, .int v1]) (rest := []) d_C_takeUp_36 mi_C_isIn ms_C_isIn lk_C_110 ⟨rfl, rfl, Nat.le_of_ble_eq_true rfl⟩ (c_C_isIn hG zm7) rfl (Nat.le_trans jcN (Nat.le_of_ble_eq_true rfl)) ?_
      refine J.if_eq 112 d_C_takeUp_39 rfl (fun c => ?_) (fun c => ?_)
      · rw [if_pos c] at h
        refine J.iinc 3 (v := (1 : Int32)) (lv := [(3, .int (v3 + (1 : Int32))), (0, jr G 1), (1, .int v1), (2, .int v2)]) d_C_takeUp_112 rfl ki_1 (by decide) rfl ?_
        refine J.goto 15 d_C_takeUp_115 rfl ?_
        exact J.sub (ls' := [(0, jr G 1), (1, .int v1), (2, .int v2), (3, .int (v3 + (1 : Int32)))]) [1, 2, 3, 0] rfl (ih (v3 + (1 : Int32)) m7 _ h)
      · rw [if_neg c] at h
        refine J.aload_n 0 d_C_takeUp_42 rfl rfl ?_
        refine J.iload_n 1 d_C_takeUp_43 rfl rfl ?_
        refine J.iload_n 2 d_C_takeUp_44 rfl rfl ?_
        refine J.nop (pc' := 45) rfl ?_
        obtain ⟨u8, m9, zm9, h⟩ := jbd_some h
        refine J.cVv Y_C_gatherFacts (As := [.int v1, .int v2]) (rest := []) hG d_C_takeUp_45 mi_C_gatherFacts mv_C_gatherFacts lk_C_392 ⟨rfl, rfl, Nat.le_of_ble_eq_true rfl⟩ cq_1 cc_0 (c_C_gatherFacts hG zm9) rfl (Nat.le_trans jcN (Nat.le_of_ble_eq_true rfl)) ?_
        refine J.aload_n 0 d_C_takeUp_48 rfl rfl ?_
        refine J.getM hG d_C_takeUp_49 fl_C_16 ck_1_2 ?_
        refine J.iload_n 3 d_C_takeUp_52 rfl rfl ?_
        refine J.aload_n 0 d_C_takeUp_53 rfl rfl ?_
        refine J.getF (n := 28) hG d_C_takeUp_54 fl_C_32 ck_1_5 rfl ?_
        obtain ⟨g12, h⟩ := jgd_some h
        obtain ⟨x10, m11, zm11, h⟩ := jbd_some h
        refine J.cVi Y_H_holds (As := [.int v3, jr G 28]) (rest := []) hG d_C_takeUp_57 mi_H_holds mv_H_holds lk_C_395 ⟨rfl, rfl, Nat.le_of_ble_eq_true rfl⟩ (jhok_q g12) cc_1 (c_H_holds hG g12 zm11) rfl (Nat.le_trans jcN (Nat.le_of_ble_eq_true rfl)) ?_
        refine J.if_eq 112 d_C_takeUp_60 rfl (fun c => ?_) (fun c => ?_)
        · rw [if_pos c] at h
          refine J.iinc 3 (v := (1 : Int32)) (lv := [(3, .int (v3 + (1 : Int32))), (0, jr G 1), (1, .int v1), (2, .int v2)]) d_C_takeUp_112 rfl ki_1 (by decide) rfl ?_
          refine J.goto 15 d_C_takeUp_115 rfl ?_
          exact J.sub (ls' := [(0, jr G 1), (1, .int v1), (2, .int v2), (3, .int (v3 + (1 : Int32)))]) [1, 2, 3, 0] rfl (ih (v3 + (1 : Int32)) m11 _ h)
        · rw [if_neg c] at h
          refine J.nop (pc' := 63) rfl ?_
          refine J.aload_n 0 d_C_takeUp_63 rfl rfl ?_
          refine J.getM hG d_C_takeUp_64 fl_C_16 ck_1_2 ?_
          obtain ⟨g13, h⟩ := jgd_some h
          refine J.getF (n := (m11 1 2).toNatClampNeg + 2) hG d_C_takeUp_67 fl_C_398 (jhok_F g13 3 rfl) (jhok_fx g13 3 2 rfl rfl) ?_
          refine J.iload_n 3 d_C_takeUp_70 rfl rfl ?_
          obtain ⟨x14, ex14, g, h⟩ := jld_some h
          refine J.zl hG d_C_takeUp_71 g ex14 ?_
          refine J.if_eq 87 d_C_takeUp_72 rfl (fun c => ?_) (fun c => ?_)
          · rw [if_pos c] at h
            refine J.aload_n 0 d_C_takeUp_87 rfl rfl ?_
            refine J.getF (n := 29) hG d_C_takeUp_88 fl_C_38 ck_1_7 rfl ?_
            refine J.getF (n := 30) hG d_C_takeUp_91 fl_C_172 ck_29_0 rfl ?_
            refine J.iload_n 2 d_C_takeUp_94 rfl rfl ?_
            obtain ⟨x15, ex15, g, h⟩ := jld_some h
            refine J.il hG d_C_takeUp_95 g ex15 ?_
            obtain ⟨x16, m17, zm17, h⟩ := jbd_some h
            refine J.cSi Y_C_bit (As := [.int x15]) (rest := []) d_C_takeUp_96 mi_C_bit ms_C_bit lk_C_262 ⟨rfl, rfl, Nat.le_of_ble_eq_true rfl⟩ (c_C_bit hG zm17) rfl (Nat.le_trans jcN (Nat.le_of_ble_eq_true rfl)) ?_
            refine J.istore (lv := [(4, .int x16), (0, jr G 1), (1, .int v1), (2, .int v2), (3, .int v3)]) d_C_takeUp_99 (by decide) rfl ?_
            refine J.aload_n 1 d_C_takeUp_101 rfl rfl ?_
            refine J.nop (pc' := 102) rfl ?_
            refine J.iload_n 2 d_C_takeUp_102 rfl rfl ?_
            refine J.iload 0 d_C_takeUp_103 rfl ?_
            refine J.iconst (v := (0 : Int32)) d_C_takeUp_105 ki_0 ?_
            refine J.iload_n 3 d_C_takeUp_106 rfl rfl ?_
            refine J.iconst (v := (-1 : Int32)) d_C_takeUp_107 ki_m1 ?_
            obtain ⟨x18, m19, zm19, h⟩ := jbd_some h
            refine J.cVi Y_C_enter (As := [.int v1, .int x16, .int (0 : Int32), .int v2, .int (-1 : Int32)]) (rest := []) hG d_C_takeUp_108 mi_C_enter mv_C_enter lk_C_118 ⟨rfl, rfl, Nat.le_of_ble_eq_true rfl⟩ cq_1 cc_0 (c_C_enter hG zm19) rfl (Nat.le_trans jcN (Nat.le_of_ble_eq_true rfl)) ?_
            refine J.pop d_C_takeUp_111 rfl ?_
            refine J.iinc 4 (v := (1 : Int32)) (lv := [(3, .int (v3 + (1 : Int32))), (4, .int x16), (0, jr G 1), (1, .int v1), (2, .int v2)]) d_C_takeUp_112 rfl ki_1 (by decide) rfl ?_
            refine J.nop (pc' := 115) rfl ?_
            refine J.goto 15 d_C_takeUp_115 rfl ?_
            exact J.sub (ls' := [(0, jr G 1), (1, .int v1), (2, .int v2), (3, .int (v3 + (1 : Int32)))]) [2, 3, 4, 0] rfl (ih (v3 + (1 : Int32)) m19 _ h)
          · rw [if_neg c] at h
            refine J.bipush (v := (63 : Int32)) d_C_takeUp_75 kb_63 ?_
            refine J.iload_n 1 d_C_takeUp_77 rfl rfl ?_
            refine J.nop (pc' := 78) rfl ?_
            obtain ⟨x20, m21, zm21, h⟩ := jbd_some h
            refine J.cSi Y_C_bit (As := [.int v1]) (rest := [.int (63 : Int32)]) d_C_takeUp_78 mi_C_bit ms_C_bit lk_C_262 ⟨rfl, rfl, Nat.le_of_ble_eq_true rfl⟩ (c_C_bit hG zm21) rfl (Nat.le_trans (jcI jcN) (Nat.le_of_ble_eq_true rfl)) ?_
            refine J.iconst (v := (-1 : Int32)) d_C_takeUp_81 ki_m1 ?_
            refine J.ixor d_C_takeUp_82 ?_
            refine J.iand d_C_takeUp_83 ?_
            refine J.goto 99 d_C_takeUp_84 rfl ?_
            refine J.istore (lv := [(4, .int ((63 : Int32) &&& (x20 ^^^ (-1 : Int32)))), (0, jr G 1), (1, .int v1), (2, .int v2), (3, .int v3)]) d_C_takeUp_99 (by decide) rfl ?_
            refine J.aload_n 1 d_C_takeUp_101 rfl rfl ?_
            refine J.iload_n 2 d_C_takeUp_102 rfl rfl ?_
            refine J.iload 0 d_C_takeUp_103 rfl ?_
            refine J.iconst (v := (0 : Int32)) d_C_takeUp_105 ki_0 ?_
            refine J.iload_n 3 d_C_takeUp_106 rfl rfl ?_
            refine J.iconst (v := (-1 : Int32)) d_C_takeUp_107 ki_m1 ?_
            obtain ⟨x22, m23, zm23, h⟩ := jbd_some h
            refine J.cVi Y_C_enter (As := [.int v1, .int ((63 : Int32) &&& (x20 ^^^ (-1 : Int32))), .int (0 : Int32), .int v2, .int (-1 : Int32)]) (rest := []) hG d_C_takeUp_108 mi_C_enter mv_C_enter lk_C_118 ⟨rfl, rfl, Nat.le_of_ble_eq_true rfl⟩ cq_1 cc_0 (c_C_enter hG zm23) rfl (Nat.le_trans jcN (Nat.le_of_ble_eq_true rfl)) ?_
            refine J.nop (pc' := 111) rfl ?_
            refine J.pop d_C_takeUp_111 rfl ?_
            refine J.iinc 4 (v := (1 : Int32)) (lv := [(3, .int (v3 + (1 : Int32))), (4, .int ((63 : Int32) &&& (x20 ^^^ (-1 : Int32)))), (0, jr G 1), (1, .int v1), (2, .int v2)]) d_C_takeUp_112 rfl ki_1 (by decide) rfl ?_
            refine J.goto 15 d_C_takeUp_115 rfl ?_
            exact J.sub (ls' := [(0, jr G 1), (1, .int v1), (2, .int v2), (3, .int (v3 + (1 : Int32)))]) [2, 3, 4, 0] rfl (ih (v3 + (1 : Int32)) m23 _ h)
theorem c_C_takeUp {G : jG} (hG : jFul G) {v1 : Int32} {v2 : Int32} {m : jMem} {r : (Unit × jMem)} (h : f_C_takeUp v1 v2 m = some r) : jCt G Y_C_takeUp [jr G 1, .int v1, .int v2] m (jrv r) := by
  refine jCt.ov (ls := [(0, jr G 1), (1, .int v1), (2, .int v2)]) mi_C_takeUp (jAvR (jAvI (jAvI jAvN))) (Nat.le_of_ble_eq_true rfl) ?_ ⟨rfl, rfl⟩
  unfold f_C_takeUp at h
  refine J.aload_n 0 d_C_takeUp_0 rfl rfl ?_
  refine J.getF (n := 65) hG d_C_takeUp_1 fl_C_52 ck_1_9 rfl ?_
  refine J.iload_n 1 d_C_takeUp_4 rfl rfl ?_
  refine J.iload_n 2 d_C_takeUp_5 rfl rfl ?_
  refine J.aload_n 0 d_C_takeUp_6 rfl rfl ?_
  refine J.getI hG d_C_takeUp_7 fl_C_139 ck_1_6 ?_
  obtain ⟨u1, m2, zm2, h⟩ := jbd_some h
  refine J.cVv Y_D_take (As := [.int v1, .int v2, .int (m 1 6)]) (rest := []) hG d_C_takeUp_10 mi_D_take mv_D_take lk_C_386 ⟨rfl, rfl, Nat.le_of_ble_eq_true rfl⟩ cq_65 cc_6 (c_D_take hG zm2) rfl (Nat.le_trans jcN (Nat.le_of_ble_eq_true rfl)) ?_
  refine J.iconst (v := (0 : Int32)) d_C_takeUp_13 ki_0 ?_
  refine J.nop (pc' := 14) rfl ?_
  refine J.istore_n (lv := [(3, .int (0 : Int32)), (0, jr G 1), (1, .int v1), (2, .int v2)]) d_C_takeUp_14 rfl (by decide) rfl ?_
  refine J.sub (ls' := [(0, jr G 1), (1, .int v1), (2, .int v2), (3, .int (0 : Int32))]) [1, 2, 3, 0] rfl ?_
  refine jlp_C_takeUp_15 hG v1 v2 _ ?_ _ (0 : Int32) m2 _ h
  intro m24 r h
  cases h
  exact J.vret d_C_takeUp_118 rfl rfl

def lp_C_clearDesk_2 (v1 : Int32) (k19 : jMem → Option (Unit × jMem)) (k32 : jMem → Option (Unit × jMem)) : Nat → Int32 → jMem → Option (Unit × jMem)
  | 0, _, _ => none
  | n + 1, v2, m =>
    if (30 : Int32) ≤ v2 then
      k32 m
    else
      jbd (f_C_firstThatRuleLets v1 m) fun x1 m2 =>
      if x1 = (-1 : Int32) then
        k19 m2
      else
        jbd (f_C_takeUp v1 x1 m2) fun u3 m4 =>
        lp_C_clearDesk_2 v1 k19 k32 n (v2 + (1 : Int32)) m4
def f_C_clearDesk (v1 : Int32) (m : jMem) : Option (Unit × jMem) :=
  lp_C_clearDesk_2 v1 (fun m5 =>
    some ((), m5)) (fun m6 =>
    some ((), m6)) 5000 (0 : Int32) m
theorem jlp_C_clearDesk_2 {G : jG} (hG : jFul G) (v1 : Int32) (k19 : jMem → Option (Unit × jMem)) (k32 : jMem → Option (Unit × jMem))
    (hk19 : ∀ (m : jMem) (r : (Unit × jMem)), k19 m = some r → J G Y_C_clearDesk 19 [] [] m (jrv r))
    (hk32 : ∀ (m : jMem) (r : (Unit × jMem)), k32 m = some r → J G Y_C_clearDesk 32 [] [] m (jrv r)) : ∀ (n : Nat) (v2 : Int32) (m : jMem) (r : (Unit × jMem)), lp_C_clearDesk_2 v1 k19 k32 n v2 m = some r → J G Y_C_clearDesk 2 [(0, jr G 1), (1, .int v1), (2, .int v2)] [] m (jrv r) := by
  intro n
  induction n with
  | zero => intro v2 m r h; unfold lp_C_clearDesk_2 at h; cases h
  | succ n ih =>
    intro v2 m r h
    unfold lp_C_clearDesk_2 at h
    refine J.iload_n 2 d_C_clearDesk_2 rfl rfl ?_
    refine J.bipush (v := (30 : Int32)) d_C_clearDesk_3 kb_30 ?_
    refine J.icmp_ge 32 d_C_clearDesk_5 rfl (fun c => ?_) (fun c => ?_)
    · rw [if_pos c] at h
      exact J.sub (ls' := []) [] rfl (hk32  m _ h)
    · rw [if_neg c] at h
      refine J.aload_n 0 d_C_clearDesk_8 rfl rfl ?_
      refine J.iload_n 1 d_C_clearDesk_9 rfl rfl ?_
      obtain ⟨x1, m2, zm2, h⟩ := jbd_some h
      refine J.cVi Y_C_firstThatRuleLets (As := [.int v1]) (rest := []) hG d_C_clearDesk_10 mi_C_firstThatRuleLets mv_C_firstThatRuleLets lk_C_358 ⟨rfl, rfl, Nat.le_of_ble_eq_true rfl⟩ cq_1 cc_0 (c_C_firstThatRuleLets hG zm2) rfl (Nat.le_trans jcN (Nat.le_of_ble_eq_true rfl)) ?_
      refine J.istore_n (lv := [(3, .int x1), (0, jr G 1), (1, .int v1), (2, .int v2)]) d_C_clearDesk_13 rfl (by decide) rfl ?_
      refine J.iload_n 0 d_C_clearDesk_14 rfl rfl ?_
      refine J.nop (pc' := 15) rfl ?_
      refine J.iconst (v := (-1 : Int32)) d_C_clearDesk_15 ki_m1 ?_
      refine J.icmp_ne 20 d_C_clearDesk_16 rfl (fun c => ?_) (fun c => ?_)
      · rw [if_neg c] at h
        refine J.aload_n 1 d_C_clearDesk_20 rfl rfl ?_
        refine J.iload_n 2 d_C_clearDesk_21 rfl rfl ?_
        refine J.iload_n 0 d_C_clearDesk_22 rfl rfl ?_
        obtain ⟨u3, m4, zm4, h⟩ := jbd_some h
        refine J.cVv Y_C_takeUp (As := [.int v1, .int x1]) (rest := []) hG d_C_clearDesk_23 mi_C_takeUp mv_C_takeUp lk_C_158 ⟨rfl, rfl, Nat.le_of_ble_eq_true rfl⟩ cq_1 cc_0 (c_C_takeUp hG zm4) rfl (Nat.le_trans jcN (Nat.le_of_ble_eq_true rfl)) ?_
        refine J.iinc 3 (v := (1 : Int32)) (lv := [(2, .int (v2 + (1 : Int32))), (3, .int x1), (0, jr G 1), (1, .int v1)]) d_C_clearDesk_26 rfl ki_1 (by decide) rfl ?_
        refine J.goto 2 d_C_clearDesk_29 rfl ?_
        exact J.sub (ls' := [(0, jr G 1), (1, .int v1), (2, .int (v2 + (1 : Int32)))]) [2, 3, 0] rfl (ih (v2 + (1 : Int32)) m4 _ h)
      · rw [if_pos c] at h
        exact J.sub (ls' := []) [] rfl (hk19  m2 _ h)
theorem c_C_clearDesk {G : jG} (hG : jFul G) {v1 : Int32} {m : jMem} {r : (Unit × jMem)} (h : f_C_clearDesk v1 m = some r) : jCt G Y_C_clearDesk [jr G 1, .int v1] m (jrv r) := by
  refine jCt.ov (ls := [(0, jr G 1), (1, .int v1)]) mi_C_clearDesk (jAvR (jAvI jAvN)) (Nat.le_of_ble_eq_true rfl) ?_ ⟨rfl, rfl⟩
  unfold f_C_clearDesk at h
  refine J.iconst (v := (0 : Int32)) d_C_clearDesk_0 ki_0 ?_
  refine J.istore_n (lv := [(2, .int (0 : Int32)), (0, jr G 1), (1, .int v1)]) d_C_clearDesk_1 rfl (by decide) rfl ?_
  refine J.sub (ls' := [(0, jr G 1), (1, .int v1), (2, .int (0 : Int32))]) [1, 2, 0] rfl ?_
  refine jlp_C_clearDesk_2 hG v1 _ _ ?_ ?_ _ (0 : Int32) m _ h
  · intro m5 r h
    cases h
    exact J.vret d_C_clearDesk_19 rfl rfl
  · intro m6 r h
    cases h
    exact J.vret d_C_clearDesk_32 rfl rfl

def lp_C_days_47 (v1 : Int32) (v2 : Int32) (k64 : jMem → Option (Int32 × jMem)) : Nat → Int32 → jMem → Option (Int32 × jMem)
  | 0, _, _ => none
  | n + 1, v3, m =>
    if (6 : Int32) ≤ v3 then
      k64 m
    else
      jbd (f_C_clearDesk v3 m) fun u4 m5 =>
      lp_C_days_47 v1 v2 k64 n (v3 + (1 : Int32)) m5
def lp_C_days_26 (v1 : Int32) (k70 : jMem → Option (Int32 × jMem)) : Nat → Int32 → jMem → Option (Int32 × jMem)
  | 0, _, _ => none
  | n + 1, v2, m =>
    if v1 ≤ v2 then
      k70 m
    else
      jpu m 1 6 ((m 1 6) + (1 : Int32)) fun m1 =>
      jbd (f_C_bringCopies m1) fun u2 m3 =>
      lp_C_days_47 v1 v2 (fun m6 =>
        lp_C_days_26 v1 k70 n (v2 + (1 : Int32)) m6) 5000 (0 : Int32) m3
def f_C_days (v1 : Int32) (m : jMem) : Option (Int32 × jMem) :=
  if v1 < 0 then
    some ((-1 : Int32), m)
  else
    if (99 : Int32) < v1 then
      some ((-1 : Int32), m)
    else
      if ((m 1 6) + v1) ≤ (999 : Int32) then
        lp_C_days_26 v1 (fun m7 =>
          some ((m7 1 6), m7)) 5000 (0 : Int32) m
      else
        some ((-1 : Int32), m)
theorem jlp_C_days_47 {G : jG} (hG : jFul G) (v1 : Int32) (v2 : Int32) (k64 : jMem → Option (Int32 × jMem))
    (hk64 : ∀ (m : jMem) (r : (Int32 × jMem)), k64 m = some r → J G Y_C_days 64 [(0, jr G 1), (1, .int v1), (2, .int v2)] [] m (jri r)) : ∀ (n : Nat) (v3 : Int32) (m : jMem) (r : (Int32 × jMem)), lp_C_days_47 v1 v2 k64 n v3 m = some r → J G Y_C_days 47 [(0, jr G 1), (1, .int v1), (2, .int v2), (3, .int v3)] [] m (jri r) := by
  intro n
  induction n with
  | zero => intro v3 m r h; unfold lp_C_days_47 at h; cases h
  | succ n ih =>
    intro v3 m r h
    unfold lp_C_days_47 at h
    refine J.iload_n 3 d_C_days_47 rfl rfl ?_
    refine J.bipush (v := (6 : Int32)) d_C_days_48 kb_6 ?_
    refine J.icmp_ge 64 d_C_days_50 rfl (fun c => ?_) (fun c => ?_)
    · rw [if_pos c] at h
      exact J.sub (ls' := [(0, jr G 1), (1, .int v1), (2, .int v2)]) [0, 1, 2] rfl (hk64  m _ h)
    · rw [if_neg c] at h
      refine J.aload_n 0 d_C_days_53 rfl rfl ?_
      refine J.iload_n 3 d_C_days_54 rfl rfl ?_
      obtain ⟨u4, m5, zm5, h⟩ := jbd_some h
      refine J.cVv Y_C_clearDesk (As := [.int v3]) (rest := []) hG d_C_days_55 mi_C_clearDesk mv_C_clearDesk lk_C_152 ⟨rfl, rfl, Nat.le_of_ble_eq_true rfl⟩ cq_1 cc_0 (c_C_clearDesk hG zm5) rfl (Nat.le_trans jcN (Nat.le_of_ble_eq_true rfl)) ?_
      refine J.iinc 3 (v := (1 : Int32)) (lv := [(3, .int (v3 + (1 : Int32))), (0, jr G 1), (1, .int v1), (2, .int v2)]) d_C_days_58 rfl ki_1 (by decide) rfl ?_
      refine J.goto 47 d_C_days_61 rfl ?_
      exact J.sub (ls' := [(0, jr G 1), (1, .int v1), (2, .int v2), (3, .int (v3 + (1 : Int32)))]) [1, 2, 3, 0] rfl (ih (v3 + (1 : Int32)) m5 _ h)
theorem jlp_C_days_26 {G : jG} (hG : jFul G) (v1 : Int32) (k70 : jMem → Option (Int32 × jMem))
    (hk70 : ∀ (m : jMem) (r : (Int32 × jMem)), k70 m = some r → J G Y_C_days 70 [(0, jr G 1)] [] m (jri r)) : ∀ (n : Nat) (v2 : Int32) (m : jMem) (r : (Int32 × jMem)), lp_C_days_26 v1 k70 n v2 m = some r → J G Y_C_days 26 [(0, jr G 1), (1, .int v1), (2, .int v2)] [] m (jri r) := by
  intro n
  induction n with
  | zero => intro v2 m r h; unfold lp_C_days_26 at h; cases h
  | succ n ih =>
    intro v2 m r h
    unfold lp_C_days_26 at h
    refine J.iload_n 2 d_C_days_26 rfl rfl ?_
    refine J.iload_n 1 d_C_days_27 rfl rfl ?_
    refine J.icmp_ge 70 d_C_days_28 rfl (fun c => ?_) (fun c => ?_)
    · rw [if_pos c] at h
      exact J.sub (ls' := [(0, jr G 1)]) [0] rfl (hk70  m _ h)
    · rw [if_neg c] at h
      refine J.aload_n 0 d_C_days_31 rfl rfl ?_
      refine J.dup d_C_days_32 (jr_cat _ _) ?_
      refine J.getI hG d_C_days_33 fl_C_139 ck_1_6 ?_
      refine J.iconst (v := (1 : Int32)) d_C_days_36 ki_1 ?_
      refine J.iadd d_C_days_37 ?_
      refine J.nop (pc' := 38) rfl ?_
      obtain ⟨m1, hm1, h⟩ := jpu_some h
      refine J.putI hG d_C_days_38 fl_C_139 fp_0_6 ck_1_6 hm1 ?_
      refine J.aload_n 0 d_C_days_41 rfl rfl ?_
      obtain ⟨u2, m3, zm3, h⟩ := jbd_some h
      refine J.cVv Y_C_bringCopies (As := []) (rest := []) hG d_C_days_42 mi_C_bringCopies mv_C_bringCopies lk_C_149 ⟨rfl, rfl, Nat.le_of_ble_eq_true rfl⟩ cq_1 cc_0 (c_C_bringCopies hG zm3) rfl (Nat.le_trans jcN (Nat.le_of_ble_eq_true rfl)) ?_
      refine J.iconst (v := (0 : Int32)) d_C_days_45 ki_0 ?_
      refine J.istore_n (lv := [(3, .int (0 : Int32)), (0, jr G 1), (1, .int v1), (2, .int v2)]) d_C_days_46 rfl (by decide) rfl ?_
      refine J.sub (ls' := [(0, jr G 1), (1, .int v1), (2, .int v2), (3, .int (0 : Int32))]) [1, 2, 3, 0] rfl ?_
      refine jlp_C_days_47 hG v1 v2 _ ?_ _ (0 : Int32) m3 _ h
      intro m6 r h
      refine J.iinc 2 (v := (1 : Int32)) (lv := [(2, .int (v2 + (1 : Int32))), (0, jr G 1), (1, .int v1)]) d_C_days_64 rfl ki_1 (by decide) rfl ?_
      refine J.goto 26 d_C_days_67 rfl ?_
      exact J.sub (ls' := [(0, jr G 1), (1, .int v1), (2, .int (v2 + (1 : Int32)))]) [1, 2, 0] rfl (ih (v2 + (1 : Int32)) m6 _ h)
theorem c_C_days {G : jG} (hG : jFul G) {v1 : Int32} {m : jMem} {r : (Int32 × jMem)} (h : f_C_days v1 m = some r) : jCt G Y_C_days [jr G 1, .int v1] m (jri r) := by
  refine jCt.ov (ls := [(0, jr G 1), (1, .int v1)]) mi_C_days (jAvR (jAvI jAvN)) (Nat.le_of_ble_eq_true rfl) ?_ ⟨rfl, rfl⟩
  unfold f_C_days at h
  refine J.iload_n 1 d_C_days_0 rfl rfl ?_
  refine J.if_lt 22 d_C_days_1 rfl (fun c => ?_) (fun c => ?_)
  · rw [if_pos c] at h
    refine J.iconst (v := (-1 : Int32)) d_C_days_22 ki_m1 ?_
    cases h
    exact J.iret d_C_days_23 rfl (vp_nar_int _) rfl
  · rw [if_neg c] at h
    refine J.iload_n 1 d_C_days_4 rfl rfl ?_
    refine J.bipush (v := (99 : Int32)) d_C_days_5 kb_99 ?_
    refine J.icmp_gt 22 d_C_days_7 rfl (fun c => ?_) (fun c => ?_)
    · rw [if_pos c] at h
      refine J.iconst (v := (-1 : Int32)) d_C_days_22 ki_m1 ?_
      cases h
      exact J.iret d_C_days_23 rfl (vp_nar_int _) rfl
    · rw [if_neg c] at h
      refine J.aload_n 0 d_C_days_10 rfl rfl ?_
      refine J.getI hG d_C_days_11 fl_C_139 ck_1_6 ?_
      refine J.iload_n 1 d_C_days_14 rfl rfl ?_
      refine J.nop (pc' := 15) rfl ?_
      refine J.iadd d_C_days_15 ?_
      refine J.sipush (v := (999 : Int32)) d_C_days_16 ks_999 ?_
      refine J.icmp_le 24 d_C_days_19 rfl (fun c => ?_) (fun c => ?_)
      · rw [if_pos c] at h
        refine J.iconst (v := (0 : Int32)) d_C_days_24 ki_0 ?_
        refine J.istore_n (lv := [(2, .int (0 : Int32)), (0, jr G 1), (1, .int v1)]) d_C_days_25 rfl (by decide) rfl ?_
        refine J.sub (ls' := [(0, jr G 1), (1, .int v1), (2, .int (0 : Int32))]) [1, 2, 0] rfl ?_
        refine jlp_C_days_26 hG v1 _ ?_ _ (0 : Int32) m _ h
        intro m7 r h
        refine J.aload_n 0 d_C_days_70 rfl rfl ?_
        refine J.getI hG d_C_days_71 fl_C_139 ck_1_6 ?_
        cases h
        exact J.iret d_C_days_74 rfl (vp_nar_int _) rfl
      · rw [if_neg c] at h
        refine J.iconst (v := (-1 : Int32)) d_C_days_22 ki_m1 ?_
        cases h
        exact J.iret d_C_days_23 rfl (vp_nar_int _) rfl

def f_C_read (v1 : Int32) (v2 : Int32) (m : jMem) : Option (Int32 × jMem) :=
  jbd (f_D_holds v1 v2 m) fun x1 m2 =>
  if x1 = 0 then
    some ((-1 : Int32), m2)
  else
    jbd (f_C_takeUp v1 v2 m2) fun u3 m4 =>
    jld 1 m4 73 v1 fun x5 =>
    some (x5, m4)
theorem c_C_read {G : jG} (hG : jFul G) {v1 : Int32} {v2 : Int32} {m : jMem} {r : (Int32 × jMem)} (h : f_C_read v1 v2 m = some r) : jCt G Y_C_read [jr G 1, .int v1, .int v2] m (jri r) := by
  refine jCt.ov (ls := [(0, jr G 1), (1, .int v1), (2, .int v2)]) mi_C_read (jAvR (jAvI (jAvI jAvN))) (Nat.le_of_ble_eq_true rfl) ?_ ⟨rfl, rfl⟩
  unfold f_C_read at h
  refine J.aload_n 0 d_C_read_0 rfl rfl ?_
  refine J.getF (n := 65) hG d_C_read_1 fl_C_52 ck_1_9 rfl ?_
  refine J.iload_n 1 d_C_read_4 rfl rfl ?_
  refine J.iload_n 2 d_C_read_5 rfl rfl ?_
  obtain ⟨x1, m2, zm2, h⟩ := jbd_some h
  refine J.cVi Y_D_holds (As := [.int v1, .int v2]) (rest := []) hG d_C_read_6 mi_D_holds mv_D_holds lk_C_155 ⟨rfl, rfl, Nat.le_of_ble_eq_true rfl⟩ cq_65 cc_6 (c_D_holds hG zm2) rfl (Nat.le_trans jcN (Nat.le_of_ble_eq_true rfl)) ?_
  refine J.if_ne 14 d_C_read_9 rfl (fun c => ?_) (fun c => ?_)
  · rw [if_neg c] at h
    refine J.aload_n 0 d_C_read_14 rfl rfl ?_
    refine J.iload_n 1 d_C_read_15 rfl rfl ?_
    refine J.iload_n 2 d_C_read_16 rfl rfl ?_
    obtain ⟨u3, m4, zm4, h⟩ := jbd_some h
    refine J.cVv Y_C_takeUp (As := [.int v1, .int v2]) (rest := []) hG d_C_read_17 mi_C_takeUp mv_C_takeUp lk_C_158 ⟨rfl, rfl, Nat.le_of_ble_eq_true rfl⟩ cq_1 cc_0 (c_C_takeUp hG zm4) rfl (Nat.le_trans jcN (Nat.le_of_ble_eq_true rfl)) ?_
    refine J.aload_n 0 d_C_read_20 rfl rfl ?_
    refine J.getF (n := 65) hG d_C_read_21 fl_C_52 ck_1_9 rfl ?_
    refine J.getF (n := 73) hG d_C_read_24 fl_C_162 ck_65_1 rfl ?_
    refine J.iload_n 1 d_C_read_27 rfl rfl ?_
    refine J.nop (pc' := 28) rfl ?_
    obtain ⟨x5, ex5, g, h⟩ := jld_some h
    refine J.il hG d_C_read_28 g ex5 ?_
    cases h
    exact J.iret d_C_read_29 rfl (vp_nar_int _) rfl
  · rw [if_pos c] at h
    refine J.iconst (v := (-1 : Int32)) d_C_read_12 ki_m1 ?_
    cases h
    exact J.iret d_C_read_13 rfl (vp_nar_int _) rfl

def f_C_copy (v1 : Int32) (v2 : Int32) (m : jMem) : Option (Int32 × jMem) :=
  jbd (f_P_isCopy v1 m) fun x1 m2 =>
  if x1 = 0 then
    some ((-1 : Int32), m2)
  else
    if v2 = (0 : Int32) then
      jld 1 m2 60 v1 fun x6 =>
      some (x6, m2)
    else
      if v2 = (1 : Int32) then
        jld 1 m2 62 v1 fun x5 =>
        some (x5, m2)
      else
        if v2 = (2 : Int32) then
          jld 1 m2 63 v1 fun x4 =>
          some (x4, m2)
        else
          if v2 = (3 : Int32) then
            jld 1 m2 64 v1 fun x3 =>
            some (x3, m2)
          else
            some ((-1 : Int32), m2)
theorem c_C_copy {G : jG} (hG : jFul G) {v1 : Int32} {v2 : Int32} {m : jMem} {r : (Int32 × jMem)} (h : f_C_copy v1 v2 m = some r) : jCt G Y_C_copy [jr G 1, .int v1, .int v2] m (jri r) := by
  refine jCt.ov (ls := [(0, jr G 1), (1, .int v1), (2, .int v2)]) mi_C_copy (jAvR (jAvI (jAvI jAvN))) (Nat.le_of_ble_eq_true rfl) ?_ ⟨rfl, rfl⟩
  unfold f_C_copy at h
  refine J.aload_n 0 d_C_copy_0 rfl rfl ?_
  refine J.getF (n := 45) hG d_C_copy_1 fl_C_45 ck_1_8 rfl ?_
  refine J.iload_n 1 d_C_copy_4 rfl rfl ?_
  obtain ⟨x1, m2, zm2, h⟩ := jbd_some h
  refine J.cVi Y_P_isCopy (As := [.int v1]) (rest := []) hG d_C_copy_5 mi_P_isCopy mv_P_isCopy lk_C_195 ⟨rfl, rfl, Nat.le_of_ble_eq_true rfl⟩ cq_45 cc_5 (c_P_isCopy hG zm2) rfl (Nat.le_trans jcN (Nat.le_of_ble_eq_true rfl)) ?_
  refine J.if_ne 13 d_C_copy_8 rfl (fun c => ?_) (fun c => ?_)
  · rw [if_neg c] at h
    refine J.iload_n 2 d_C_copy_13 rfl rfl ?_
    by_cases c0 : v2 = (0 : Int32)
    · rw [if_pos c0] at h
      refine J.tsIn 44 d_C_copy_14 c0 (by decide) (by decide) rfl (by decide) ?_
      refine J.aload_n 0 d_C_copy_44 rfl rfl ?_
      refine J.getF (n := 45) hG d_C_copy_45 fl_C_45 ck_1_8 rfl ?_
      refine J.getF (n := 60) hG d_C_copy_48 fl_C_198 ck_45_5 rfl ?_
      refine J.iload_n 1 d_C_copy_51 rfl rfl ?_
      obtain ⟨x6, ex6, g, h⟩ := jld_some h
      refine J.il hG d_C_copy_52 g ex6 ?_
      cases h
      exact J.iret d_C_copy_53 rfl (vp_nar_int _) rfl
    · rw [if_neg c0] at h
      by_cases c1 : v2 = (1 : Int32)
      · rw [if_pos c1] at h
        refine J.tsIn 54 d_C_copy_14 c1 (by decide) (by decide) rfl (by decide) ?_
        refine J.aload_n 0 d_C_copy_54 rfl rfl ?_
        refine J.getF (n := 45) hG d_C_copy_55 fl_C_45 ck_1_8 rfl ?_
        refine J.getF (n := 62) hG d_C_copy_58 fl_C_201 ck_45_7 rfl ?_
        refine J.iload_n 1 d_C_copy_61 rfl rfl ?_
        obtain ⟨x5, ex5, g, h⟩ := jld_some h
        refine J.il hG d_C_copy_62 g ex5 ?_
        cases h
        exact J.iret d_C_copy_63 rfl (vp_nar_int _) rfl
      · rw [if_neg c1] at h
        by_cases c2 : v2 = (2 : Int32)
        · rw [if_pos c2] at h
          refine J.tsIn 64 d_C_copy_14 c2 (by decide) (by decide) rfl (by decide) ?_
          refine J.aload_n 0 d_C_copy_64 rfl rfl ?_
          refine J.getF (n := 45) hG d_C_copy_65 fl_C_45 ck_1_8 rfl ?_
          refine J.getF (n := 63) hG d_C_copy_68 fl_C_204 ck_45_8 rfl ?_
          refine J.iload_n 1 d_C_copy_71 rfl rfl ?_
          obtain ⟨x4, ex4, g, h⟩ := jld_some h
          refine J.il hG d_C_copy_72 g ex4 ?_
          cases h
          exact J.iret d_C_copy_73 rfl (vp_nar_int _) rfl
        · rw [if_neg c2] at h
          by_cases c3 : v2 = (3 : Int32)
          · rw [if_pos c3] at h
            refine J.tsIn 74 d_C_copy_14 c3 (by decide) (by decide) rfl (by decide) ?_
            refine J.aload_n 0 d_C_copy_74 rfl rfl ?_
            refine J.getF (n := 45) hG d_C_copy_75 fl_C_45 ck_1_8 rfl ?_
            refine J.getF (n := 64) hG d_C_copy_78 fl_C_129 ck_45_9 rfl ?_
            refine J.iload_n 1 d_C_copy_81 rfl rfl ?_
            obtain ⟨x3, ex3, g, h⟩ := jld_some h
            refine J.il hG d_C_copy_82 g ex3 ?_
            cases h
            exact J.iret d_C_copy_83 rfl (vp_nar_int _) rfl
          · rw [if_neg c3] at h
            refine J.tsOut 84 d_C_copy_14 (jts0 (n := 4) (by decide) (fun k hk => match k, hk with | 0, _ => c0 | 1, _ => c1 | 2, _ => c2 | 3, _ => c3 | k + 4, hk => absurd hk (by omega))) rfl ?_
            refine J.iconst (v := (-1 : Int32)) d_C_copy_84 ki_m1 ?_
            cases h
            exact J.iret d_C_copy_85 rfl (vp_nar_int _) rfl
  · rw [if_pos c] at h
    refine J.iconst (v := (-1 : Int32)) d_C_copy_11 ki_m1 ?_
    cases h
    exact J.iret d_C_copy_12 rfl (vp_nar_int _) rfl

def f_C_desk (v1 : Int32) (v2 : Int32) (m : jMem) : Option (Int32 × jMem) :=
  jbd (f_C_isWriter v1 m) fun x1 m2 =>
  if x1 = 0 then
    some ((-1 : Int32), m2)
  else
    if v2 < 0 then
      some ((-1 : Int32), m2)
    else
      jld 1 m2 73 v1 fun x3 =>
      if v2 < x3 then
        jbd (f_D_letterAt v1 v2 m2) fun x4 m5 =>
        some (x4, m5)
      else
        some ((-1 : Int32), m2)
theorem c_C_desk {G : jG} (hG : jFul G) {v1 : Int32} {v2 : Int32} {m : jMem} {r : (Int32 × jMem)} (h : f_C_desk v1 v2 m = some r) : jCt G Y_C_desk [jr G 1, .int v1, .int v2] m (jri r) := by
  refine jCt.ov (ls := [(0, jr G 1), (1, .int v1), (2, .int v2)]) mi_C_desk (jAvR (jAvI (jAvI jAvN))) (Nat.le_of_ble_eq_true rfl) ?_ ⟨rfl, rfl⟩
  unfold f_C_desk at h
  refine J.iload_n 1 d_C_desk_0 rfl rfl ?_
  obtain ⟨x1, m2, zm2, h⟩ := jbd_some h
  refine J.cSi Y_C_isWriter (As := [.int v1]) (rest := []) d_C_desk_1 mi_C_isWriter ms_C_isWriter lk_C_102 ⟨rfl, rfl, Nat.le_of_ble_eq_true rfl⟩ (c_C_isWriter hG zm2) rfl (Nat.le_trans jcN (Nat.le_of_ble_eq_true rfl)) ?_
  refine J.if_eq 24 d_C_desk_4 rfl (fun c => ?_) (fun c => ?_)
  · rw [if_pos c] at h
    refine J.iconst (v := (-1 : Int32)) d_C_desk_24 ki_m1 ?_
    cases h
    exact J.iret d_C_desk_25 rfl (vp_nar_int _) rfl
  · rw [if_neg c] at h
    refine J.iload_n 2 d_C_desk_7 rfl rfl ?_
    refine J.if_lt 24 d_C_desk_8 rfl (fun c => ?_) (fun c => ?_)
    · rw [if_pos c] at h
      refine J.iconst (v := (-1 : Int32)) d_C_desk_24 ki_m1 ?_
      cases h
      exact J.iret d_C_desk_25 rfl (vp_nar_int _) rfl
    · rw [if_neg c] at h
      refine J.iload_n 2 d_C_desk_11 rfl rfl ?_
      refine J.aload_n 0 d_C_desk_12 rfl rfl ?_
      refine J.getF (n := 65) hG d_C_desk_13 fl_C_52 ck_1_9 rfl ?_
      refine J.nop (pc' := 16) rfl ?_
      refine J.getF (n := 73) hG d_C_desk_16 fl_C_162 ck_65_1 rfl ?_
      refine J.iload_n 1 d_C_desk_19 rfl rfl ?_
      obtain ⟨x3, ex3, g, h⟩ := jld_some h
      refine J.il hG d_C_desk_20 g ex3 ?_
      refine J.icmp_lt 26 d_C_desk_21 rfl (fun c => ?_) (fun c => ?_)
      · rw [if_pos c] at h
        refine J.aload_n 0 d_C_desk_26 rfl rfl ?_
        refine J.getF (n := 65) hG d_C_desk_27 fl_C_52 ck_1_9 rfl ?_
        refine J.iload_n 1 d_C_desk_30 rfl rfl ?_
        refine J.iload_n 2 d_C_desk_31 rfl rfl ?_
        obtain ⟨x4, m5, zm5, h⟩ := jbd_some h
        refine J.cVi Y_D_letterAt (As := [.int v1, .int v2]) (rest := []) hG d_C_desk_32 mi_D_letterAt mv_D_letterAt lk_C_205 ⟨rfl, rfl, Nat.le_of_ble_eq_true rfl⟩ cq_65 cc_6 (c_D_letterAt hG zm5) rfl (Nat.le_trans jcN (Nat.le_of_ble_eq_true rfl)) ?_
        cases h
        exact J.iret d_C_desk_35 rfl (vp_nar_int _) rfl
      · rw [if_neg c] at h
        refine J.iconst (v := (-1 : Int32)) d_C_desk_24 ki_m1 ?_
        cases h
        exact J.iret d_C_desk_25 rfl (vp_nar_int _) rfl

def f_C_before (v1 : Int32) (v2 : Int32) (m : jMem) : Option (Int32 × jMem) :=
  jbd (f_L_areTwo v1 v2 m) fun x1 m2 =>
  if x1 = 0 then
    some ((-1 : Int32), m2)
  else
    jld 1 m2 37 v2 fun x3 =>
    jbd (f_C_isIn x3 v1 m2) fun x4 m5 =>
    if x4 = 0 then
      jld 1 m5 37 v1 fun x6 =>
      jbd (f_C_isIn x6 v2 m5) fun x7 m8 =>
      if x7 = 0 then
        some ((0 : Int32), m8)
      else
        some ((2 : Int32), m8)
    else
      some ((1 : Int32), m5)
theorem c_C_before {G : jG} (hG : jFul G) {v1 : Int32} {v2 : Int32} {m : jMem} {r : (Int32 × jMem)} (h : f_C_before v1 v2 m = some r) : jCt G Y_C_before [jr G 1, .int v1, .int v2] m (jri r) := by
  refine jCt.ov (ls := [(0, jr G 1), (1, .int v1), (2, .int v2)]) mi_C_before (jAvR (jAvI (jAvI jAvN))) (Nat.le_of_ble_eq_true rfl) ?_ ⟨rfl, rfl⟩
  unfold f_C_before at h
  refine J.aload_n 0 d_C_before_0 rfl rfl ?_
  refine J.getF (n := 29) hG d_C_before_1 fl_C_38 ck_1_7 rfl ?_
  refine J.iload_n 1 d_C_before_4 rfl rfl ?_
  refine J.iload_n 2 d_C_before_5 rfl rfl ?_
  obtain ⟨x1, m2, zm2, h⟩ := jbd_some h
  refine J.cVi Y_L_areTwo (As := [.int v1, .int v2]) (rest := []) hG d_C_before_6 mi_L_areTwo mv_L_areTwo lk_C_208 ⟨rfl, rfl, Nat.le_of_ble_eq_true rfl⟩ cq_29 cc_4 (c_L_areTwo hG zm2) rfl (Nat.le_trans jcN (Nat.le_of_ble_eq_true rfl)) ?_
  refine J.if_ne 14 d_C_before_9 rfl (fun c => ?_) (fun c => ?_)
  · rw [if_neg c] at h
    refine J.aload_n 0 d_C_before_14 rfl rfl ?_
    refine J.getF (n := 29) hG d_C_before_15 fl_C_38 ck_1_7 rfl ?_
    refine J.getF (n := 37) hG d_C_before_18 fl_C_211 ck_29_7 rfl ?_
    refine J.iload_n 2 d_C_before_21 rfl rfl ?_
    obtain ⟨x3, ex3, g, h⟩ := jld_some h
    refine J.il hG d_C_before_22 g ex3 ?_
    refine J.iload_n 1 d_C_before_23 rfl rfl ?_
    obtain ⟨x4, m5, zm5, h⟩ := jbd_some h
    refine J.cSi Y_C_isIn (As := [.int x3, .int v1]) (rest := []) d_C_before_24 mi_C_isIn ms_C_isIn lk_C_110 ⟨rfl, rfl, Nat.le_of_ble_eq_true rfl⟩ (c_C_isIn hG zm5) rfl (Nat.le_trans jcN (Nat.le_of_ble_eq_true rfl)) ?_
    refine J.if_eq 32 d_C_before_27 rfl (fun c => ?_) (fun c => ?_)
    · rw [if_pos c] at h
      refine J.aload_n 0 d_C_before_32 rfl rfl ?_
      refine J.getF (n := 29) hG d_C_before_33 fl_C_38 ck_1_7 rfl ?_
      refine J.getF (n := 37) hG d_C_before_36 fl_C_211 ck_29_7 rfl ?_
      refine J.iload_n 1 d_C_before_39 rfl rfl ?_
      obtain ⟨x6, ex6, g, h⟩ := jld_some h
      refine J.il hG d_C_before_40 g ex6 ?_
      refine J.iload_n 2 d_C_before_41 rfl rfl ?_
      obtain ⟨x7, m8, zm8, h⟩ := jbd_some h
      refine J.cSi Y_C_isIn (As := [.int x6, .int v2]) (rest := []) d_C_before_42 mi_C_isIn ms_C_isIn lk_C_110 ⟨rfl, rfl, Nat.le_of_ble_eq_true rfl⟩ (c_C_isIn hG zm8) rfl (Nat.le_trans jcN (Nat.le_of_ble_eq_true rfl)) ?_
      refine J.if_eq 52 d_C_before_45 rfl (fun c => ?_) (fun c => ?_)
      · rw [if_pos c] at h
        refine J.iconst (v := (0 : Int32)) d_C_before_52 ki_0 ?_
        cases h
        exact J.iret d_C_before_53 rfl (vp_nar_int _) rfl
      · rw [if_neg c] at h
        refine J.nop (pc' := 48) rfl ?_
        refine J.iconst (v := (2 : Int32)) d_C_before_48 ki_2 ?_
        refine J.goto 53 d_C_before_49 rfl ?_
        cases h
        exact J.iret d_C_before_53 rfl (vp_nar_int _) rfl
    · rw [if_neg c] at h
      refine J.nop (pc' := 30) rfl ?_
      refine J.iconst (v := (1 : Int32)) d_C_before_30 ki_1 ?_
      cases h
      exact J.iret d_C_before_31 rfl (vp_nar_int _) rfl
  · rw [if_pos c] at h
    refine J.iconst (v := (-1 : Int32)) d_C_before_12 ki_m1 ?_
    cases h
    exact J.iret d_C_before_13 rfl (vp_nar_int _) rfl

def f_C_path (v1 : Int32) (v2 : Int32) (v3 : Int32) (m : jMem) : Option (Int32 × jMem) :=
  jbd (f_L_areTwo v1 v2 m) fun x1 m2 =>
  if x1 = 0 then
    some ((-1 : Int32), m2)
  else
    jld 1 m2 37 v2 fun x3 =>
    jbd (f_C_isIn x3 v1 m2) fun x4 m5 =>
    if x4 = 0 then
      some ((-1 : Int32), m5)
    else
      if 0 ≤ v3 then
        jbd (f_L_onShortestWay v1 v2 v3 m5) fun x6 m7 =>
        some (x6, m7)
      else
        some ((-1 : Int32), m5)
theorem c_C_path {G : jG} (hG : jFul G) {v1 : Int32} {v2 : Int32} {v3 : Int32} {m : jMem} {r : (Int32 × jMem)} (h : f_C_path v1 v2 v3 m = some r) : jCt G Y_C_path [jr G 1, .int v1, .int v2, .int v3] m (jri r) := by
  refine jCt.ov (ls := [(0, jr G 1), (1, .int v1), (2, .int v2), (3, .int v3)]) mi_C_path (jAvR (jAvI (jAvI (jAvI jAvN)))) (Nat.le_of_ble_eq_true rfl) ?_ ⟨rfl, rfl⟩
  unfold f_C_path at h
  refine J.aload_n 0 d_C_path_0 rfl rfl ?_
  refine J.getF (n := 29) hG d_C_path_1 fl_C_38 ck_1_7 rfl ?_
  refine J.iload_n 1 d_C_path_4 rfl rfl ?_
  refine J.iload_n 2 d_C_path_5 rfl rfl ?_
  obtain ⟨x1, m2, zm2, h⟩ := jbd_some h
  refine J.cVi Y_L_areTwo (As := [.int v1, .int v2]) (rest := []) hG d_C_path_6 mi_L_areTwo mv_L_areTwo lk_C_208 ⟨rfl, rfl, Nat.le_of_ble_eq_true rfl⟩ cq_29 cc_4 (c_L_areTwo hG zm2) rfl (Nat.le_trans jcN (Nat.le_of_ble_eq_true rfl)) ?_
  refine J.if_eq 32 d_C_path_9 rfl (fun c => ?_) (fun c => ?_)
  · rw [if_pos c] at h
    refine J.iconst (v := (-1 : Int32)) d_C_path_32 ki_m1 ?_
    cases h
    exact J.iret d_C_path_33 rfl (vp_nar_int _) rfl
  · rw [if_neg c] at h
    refine J.aload_n 0 d_C_path_12 rfl rfl ?_
    refine J.getF (n := 29) hG d_C_path_13 fl_C_38 ck_1_7 rfl ?_
    refine J.nop (pc' := 16) rfl ?_
    refine J.getF (n := 37) hG d_C_path_16 fl_C_211 ck_29_7 rfl ?_
    refine J.iload_n 2 d_C_path_19 rfl rfl ?_
    obtain ⟨x3, ex3, g, h⟩ := jld_some h
    refine J.il hG d_C_path_20 g ex3 ?_
    refine J.iload_n 1 d_C_path_21 rfl rfl ?_
    obtain ⟨x4, m5, zm5, h⟩ := jbd_some h
    refine J.cSi Y_C_isIn (As := [.int x3, .int v1]) (rest := []) d_C_path_22 mi_C_isIn ms_C_isIn lk_C_110 ⟨rfl, rfl, Nat.le_of_ble_eq_true rfl⟩ (c_C_isIn hG zm5) rfl (Nat.le_trans jcN (Nat.le_of_ble_eq_true rfl)) ?_
    refine J.if_eq 32 d_C_path_25 rfl (fun c => ?_) (fun c => ?_)
    · rw [if_pos c] at h
      refine J.iconst (v := (-1 : Int32)) d_C_path_32 ki_m1 ?_
      cases h
      exact J.iret d_C_path_33 rfl (vp_nar_int _) rfl
    · rw [if_neg c] at h
      refine J.iload_n 3 d_C_path_28 rfl rfl ?_
      refine J.if_ge 34 d_C_path_29 rfl (fun c => ?_) (fun c => ?_)
      · rw [if_pos c] at h
        refine J.aload_n 0 d_C_path_34 rfl rfl ?_
        refine J.getF (n := 29) hG d_C_path_35 fl_C_38 ck_1_7 rfl ?_
        refine J.iload_n 1 d_C_path_38 rfl rfl ?_
        refine J.iload_n 2 d_C_path_39 rfl rfl ?_
        refine J.iload_n 3 d_C_path_40 rfl rfl ?_
        obtain ⟨x6, m7, zm7, h⟩ := jbd_some h
        refine J.cVi Y_L_onShortestWay (As := [.int v1, .int v2, .int v3]) (rest := []) hG d_C_path_41 mi_L_onShortestWay mv_L_onShortestWay lk_C_214 ⟨rfl, rfl, Nat.le_of_ble_eq_true rfl⟩ cq_29 cc_4 (c_L_onShortestWay hG zm7) rfl (Nat.le_trans jcN (Nat.le_of_ble_eq_true rfl)) ?_
        cases h
        exact J.iret d_C_path_44 rfl (vp_nar_int _) rfl
      · rw [if_neg c] at h
        refine J.nop (pc' := 32) rfl ?_
        refine J.iconst (v := (-1 : Int32)) d_C_path_32 ki_m1 ?_
        cases h
        exact J.iret d_C_path_33 rfl (vp_nar_int _) rfl

def f_C_sum (v1 : Int32) (m : jMem) : Option (Int32 × jMem) :=
  jbd (f_L_isLetter v1 m) fun x1 m2 =>
  if x1 = 0 then
    some ((-1 : Int32), m2)
  else
    jld 1 m2 41 v1 fun x3 =>
    some (x3, m2)
theorem c_C_sum {G : jG} (hG : jFul G) {v1 : Int32} {m : jMem} {r : (Int32 × jMem)} (h : f_C_sum v1 m = some r) : jCt G Y_C_sum [jr G 1, .int v1] m (jri r) := by
  refine jCt.ov (ls := [(0, jr G 1), (1, .int v1)]) mi_C_sum (jAvR (jAvI jAvN)) (Nat.le_of_ble_eq_true rfl) ?_ ⟨rfl, rfl⟩
  unfold f_C_sum at h
  refine J.aload_n 0 d_C_sum_0 rfl rfl ?_
  refine J.getF (n := 29) hG d_C_sum_1 fl_C_38 ck_1_7 rfl ?_
  refine J.iload_n 1 d_C_sum_4 rfl rfl ?_
  obtain ⟨x1, m2, zm2, h⟩ := jbd_some h
  refine J.cVi Y_L_isLetter (As := [.int v1]) (rest := []) hG d_C_sum_5 mi_L_isLetter mv_L_isLetter lk_C_132 ⟨rfl, rfl, Nat.le_of_ble_eq_true rfl⟩ cq_29 cc_4 (c_L_isLetter hG zm2) rfl (Nat.le_trans jcN (Nat.le_of_ble_eq_true rfl)) ?_
  refine J.if_eq 23 d_C_sum_8 rfl (fun c => ?_) (fun c => ?_)
  · rw [if_pos c] at h
    refine J.iconst (v := (-1 : Int32)) d_C_sum_23 ki_m1 ?_
    cases h
    exact J.iret d_C_sum_24 rfl (vp_nar_int _) rfl
  · rw [if_neg c] at h
    refine J.aload_n 0 d_C_sum_11 rfl rfl ?_
    refine J.getF (n := 29) hG d_C_sum_12 fl_C_38 ck_1_7 rfl ?_
    refine J.getF (n := 41) hG d_C_sum_15 fl_C_218 ck_29_11 rfl ?_
    refine J.nop (pc' := 18) rfl ?_
    refine J.iload_n 1 d_C_sum_18 rfl rfl ?_
    obtain ⟨x3, ex3, g, h⟩ := jld_some h
    refine J.il hG d_C_sum_19 g ex3 ?_
    refine J.goto 24 d_C_sum_20 rfl ?_
    cases h
    exact J.iret d_C_sum_24 rfl (vp_nar_int _) rfl

def f_C_number (v1 : Int32) (v2 : Int32) (m : jMem) : Option (Int32 × jMem) :=
  jbd (f_L_isLetter v1 m) fun x1 m2 =>
  if x1 = 0 then
    some ((-1 : Int32), m2)
  else
    jbd (f_C_isWriter v2 m2) fun x3 m4 =>
    if x3 = 0 then
      some ((-1 : Int32), m4)
    else
      jbd (f_L_numberFor v1 v2 m4) fun x5 m6 =>
      some (x5, m6)
theorem c_C_number {G : jG} (hG : jFul G) {v1 : Int32} {v2 : Int32} {m : jMem} {r : (Int32 × jMem)} (h : f_C_number v1 v2 m = some r) : jCt G Y_C_number [jr G 1, .int v1, .int v2] m (jri r) := by
  refine jCt.ov (ls := [(0, jr G 1), (1, .int v1), (2, .int v2)]) mi_C_number (jAvR (jAvI (jAvI jAvN))) (Nat.le_of_ble_eq_true rfl) ?_ ⟨rfl, rfl⟩
  unfold f_C_number at h
  refine J.aload_n 0 d_C_number_0 rfl rfl ?_
  refine J.getF (n := 29) hG d_C_number_1 fl_C_38 ck_1_7 rfl ?_
  refine J.iload_n 1 d_C_number_4 rfl rfl ?_
  obtain ⟨x1, m2, zm2, h⟩ := jbd_some h
  refine J.cVi Y_L_isLetter (As := [.int v1]) (rest := []) hG d_C_number_5 mi_L_isLetter mv_L_isLetter lk_C_132 ⟨rfl, rfl, Nat.le_of_ble_eq_true rfl⟩ cq_29 cc_4 (c_L_isLetter hG zm2) rfl (Nat.le_trans jcN (Nat.le_of_ble_eq_true rfl)) ?_
  refine J.if_eq 18 d_C_number_8 rfl (fun c => ?_) (fun c => ?_)
  · rw [if_pos c] at h
    refine J.iconst (v := (-1 : Int32)) d_C_number_18 ki_m1 ?_
    cases h
    exact J.iret d_C_number_19 rfl (vp_nar_int _) rfl
  · rw [if_neg c] at h
    refine J.iload_n 2 d_C_number_11 rfl rfl ?_
    obtain ⟨x3, m4, zm4, h⟩ := jbd_some h
    refine J.cSi Y_C_isWriter (As := [.int v2]) (rest := []) d_C_number_12 mi_C_isWriter ms_C_isWriter lk_C_102 ⟨rfl, rfl, Nat.le_of_ble_eq_true rfl⟩ (c_C_isWriter hG zm4) rfl (Nat.le_trans jcN (Nat.le_of_ble_eq_true rfl)) ?_
    refine J.if_ne 20 d_C_number_15 rfl (fun c => ?_) (fun c => ?_)
    · rw [if_neg c] at h
      refine J.aload_n 0 d_C_number_20 rfl rfl ?_
      refine J.getF (n := 29) hG d_C_number_21 fl_C_38 ck_1_7 rfl ?_
      refine J.iload_n 1 d_C_number_24 rfl rfl ?_
      refine J.iload_n 2 d_C_number_25 rfl rfl ?_
      obtain ⟨x5, m6, zm6, h⟩ := jbd_some h
      refine J.cVi Y_L_numberFor (As := [.int v1, .int v2]) (rest := []) hG d_C_number_26 mi_L_numberFor mv_L_numberFor lk_C_221 ⟨rfl, rfl, Nat.le_of_ble_eq_true rfl⟩ cq_29 cc_4 (c_L_numberFor hG zm6) rfl (Nat.le_trans jcN (Nat.le_of_ble_eq_true rfl)) ?_
      cases h
      exact J.iret d_C_number_29 rfl (vp_nar_int _) rfl
    · rw [if_pos c] at h
      refine J.nop (pc' := 18) rfl ?_
      refine J.iconst (v := (-1 : Int32)) d_C_number_18 ki_m1 ?_
      cases h
      exact J.iret d_C_number_19 rfl (vp_nar_int _) rfl

def f_C_pair (v1 : Int32) (v2 : Int32) (v3 : Int32) (m : jMem) : Option (Int32 × jMem) :=
  jbd (f_L_isLetter v1 m) fun x1 m2 =>
  if x1 = 0 then
    some ((-1 : Int32), m2)
  else
    jbd (f_C_isWriter v2 m2) fun x3 m4 =>
    if x3 = 0 then
      some ((-1 : Int32), m4)
    else
      jbd (f_C_isWriter v3 m4) fun x5 m6 =>
      if x5 = 0 then
        some ((-1 : Int32), m6)
      else
        jbd (f_L_numberOfNumber v1 v2 v3 m6) fun x7 m8 =>
        some (x7, m8)
theorem c_C_pair {G : jG} (hG : jFul G) {v1 : Int32} {v2 : Int32} {v3 : Int32} {m : jMem} {r : (Int32 × jMem)} (h : f_C_pair v1 v2 v3 m = some r) : jCt G Y_C_pair [jr G 1, .int v1, .int v2, .int v3] m (jri r) := by
  refine jCt.ov (ls := [(0, jr G 1), (1, .int v1), (2, .int v2), (3, .int v3)]) mi_C_pair (jAvR (jAvI (jAvI (jAvI jAvN)))) (Nat.le_of_ble_eq_true rfl) ?_ ⟨rfl, rfl⟩
  unfold f_C_pair at h
  refine J.aload_n 0 d_C_pair_0 rfl rfl ?_
  refine J.getF (n := 29) hG d_C_pair_1 fl_C_38 ck_1_7 rfl ?_
  refine J.iload_n 1 d_C_pair_4 rfl rfl ?_
  obtain ⟨x1, m2, zm2, h⟩ := jbd_some h
  refine J.cVi Y_L_isLetter (As := [.int v1]) (rest := []) hG d_C_pair_5 mi_L_isLetter mv_L_isLetter lk_C_132 ⟨rfl, rfl, Nat.le_of_ble_eq_true rfl⟩ cq_29 cc_4 (c_L_isLetter hG zm2) rfl (Nat.le_trans jcN (Nat.le_of_ble_eq_true rfl)) ?_
  refine J.if_eq 25 d_C_pair_8 rfl (fun c => ?_) (fun c => ?_)
  · rw [if_pos c] at h
    refine J.iconst (v := (-1 : Int32)) d_C_pair_25 ki_m1 ?_
    cases h
    exact J.iret d_C_pair_26 rfl (vp_nar_int _) rfl
  · rw [if_neg c] at h
    refine J.iload_n 2 d_C_pair_11 rfl rfl ?_
    obtain ⟨x3, m4, zm4, h⟩ := jbd_some h
    refine J.cSi Y_C_isWriter (As := [.int v2]) (rest := []) d_C_pair_12 mi_C_isWriter ms_C_isWriter lk_C_102 ⟨rfl, rfl, Nat.le_of_ble_eq_true rfl⟩ (c_C_isWriter hG zm4) rfl (Nat.le_trans jcN (Nat.le_of_ble_eq_true rfl)) ?_
    refine J.if_eq 25 d_C_pair_15 rfl (fun c => ?_) (fun c => ?_)
    · rw [if_pos c] at h
      refine J.iconst (v := (-1 : Int32)) d_C_pair_25 ki_m1 ?_
      cases h
      exact J.iret d_C_pair_26 rfl (vp_nar_int _) rfl
    · rw [if_neg c] at h
      refine J.nop (pc' := 18) rfl ?_
      refine J.iload_n 3 d_C_pair_18 rfl rfl ?_
      obtain ⟨x5, m6, zm6, h⟩ := jbd_some h
      refine J.cSi Y_C_isWriter (As := [.int v3]) (rest := []) d_C_pair_19 mi_C_isWriter ms_C_isWriter lk_C_102 ⟨rfl, rfl, Nat.le_of_ble_eq_true rfl⟩ (c_C_isWriter hG zm6) rfl (Nat.le_trans jcN (Nat.le_of_ble_eq_true rfl)) ?_
      refine J.if_ne 27 d_C_pair_22 rfl (fun c => ?_) (fun c => ?_)
      · rw [if_neg c] at h
        refine J.aload_n 0 d_C_pair_27 rfl rfl ?_
        refine J.getF (n := 29) hG d_C_pair_28 fl_C_38 ck_1_7 rfl ?_
        refine J.iload_n 1 d_C_pair_31 rfl rfl ?_
        refine J.iload_n 2 d_C_pair_32 rfl rfl ?_
        refine J.iload_n 3 d_C_pair_33 rfl rfl ?_
        obtain ⟨x7, m8, zm8, h⟩ := jbd_some h
        refine J.cVi Y_L_numberOfNumber (As := [.int v1, .int v2, .int v3]) (rest := []) hG d_C_pair_34 mi_L_numberOfNumber mv_L_numberOfNumber lk_C_224 ⟨rfl, rfl, Nat.le_of_ble_eq_true rfl⟩ cq_29 cc_4 (c_L_numberOfNumber hG zm8) rfl (Nat.le_trans jcN (Nat.le_of_ble_eq_true rfl)) ?_
        cases h
        exact J.iret d_C_pair_37 rfl (vp_nar_int _) rfl
      · rw [if_pos c] at h
        refine J.iconst (v := (-1 : Int32)) d_C_pair_25 ki_m1 ?_
        cases h
        exact J.iret d_C_pair_26 rfl (vp_nar_int _) rfl

def f_C_list (v1 : Int32) (m : jMem) : Option (Int32 × jMem) :=
  jbd (f_L_isLetter v1 m) fun x1 m2 =>
  if x1 = 0 then
    some ((-1 : Int32), m2)
  else
    jld 1 m2 39 v1 fun x3 =>
    some (x3, m2)
theorem c_C_list {G : jG} (hG : jFul G) {v1 : Int32} {m : jMem} {r : (Int32 × jMem)} (h : f_C_list v1 m = some r) : jCt G Y_C_list [jr G 1, .int v1] m (jri r) := by
  refine jCt.ov (ls := [(0, jr G 1), (1, .int v1)]) mi_C_list (jAvR (jAvI jAvN)) (Nat.le_of_ble_eq_true rfl) ?_ ⟨rfl, rfl⟩
  unfold f_C_list at h
  refine J.aload_n 0 d_C_list_0 rfl rfl ?_
  refine J.getF (n := 29) hG d_C_list_1 fl_C_38 ck_1_7 rfl ?_
  refine J.iload_n 1 d_C_list_4 rfl rfl ?_
  obtain ⟨x1, m2, zm2, h⟩ := jbd_some h
  refine J.cVi Y_L_isLetter (As := [.int v1]) (rest := []) hG d_C_list_5 mi_L_isLetter mv_L_isLetter lk_C_132 ⟨rfl, rfl, Nat.le_of_ble_eq_true rfl⟩ cq_29 cc_4 (c_L_isLetter hG zm2) rfl (Nat.le_trans jcN (Nat.le_of_ble_eq_true rfl)) ?_
  refine J.if_eq 23 d_C_list_8 rfl (fun c => ?_) (fun c => ?_)
  · rw [if_pos c] at h
    refine J.iconst (v := (-1 : Int32)) d_C_list_23 ki_m1 ?_
    cases h
    exact J.iret d_C_list_24 rfl (vp_nar_int _) rfl
  · rw [if_neg c] at h
    refine J.aload_n 0 d_C_list_11 rfl rfl ?_
    refine J.getF (n := 29) hG d_C_list_12 fl_C_38 ck_1_7 rfl ?_
    refine J.getF (n := 39) hG d_C_list_15 fl_C_227 ck_29_9 rfl ?_
    refine J.nop (pc' := 18) rfl ?_
    refine J.iload_n 1 d_C_list_18 rfl rfl ?_
    obtain ⟨x3, ex3, g, h⟩ := jld_some h
    refine J.il hG d_C_list_19 g ex3 ?_
    refine J.goto 24 d_C_list_20 rfl ?_
    cases h
    exact J.iret d_C_list_24 rfl (vp_nar_int _) rfl

def f_C_tells (v1 : Int32) (v2 : Int32) (v3 : Int32) (m : jMem) : Option (Int32 × jMem) :=
  jbd (f_L_areTwo v1 v2 m) fun x1 m2 =>
  if x1 = 0 then
    some ((-1 : Int32), m2)
  else
    jbd (f_C_isBearing v3 m2) fun x3 m4 =>
    if x3 = 0 then
      some ((-1 : Int32), m4)
    else
      jbd (f_L_isTold v1 v2 v3 m4) fun x5 m6 =>
      jbd (f_C_truth x5 m6) fun x7 m8 =>
      some (x7, m8)
theorem c_C_tells {G : jG} (hG : jFul G) {v1 : Int32} {v2 : Int32} {v3 : Int32} {m : jMem} {r : (Int32 × jMem)} (h : f_C_tells v1 v2 v3 m = some r) : jCt G Y_C_tells [jr G 1, .int v1, .int v2, .int v3] m (jri r) := by
  refine jCt.ov (ls := [(0, jr G 1), (1, .int v1), (2, .int v2), (3, .int v3)]) mi_C_tells (jAvR (jAvI (jAvI (jAvI jAvN)))) (Nat.le_of_ble_eq_true rfl) ?_ ⟨rfl, rfl⟩
  unfold f_C_tells at h
  refine J.aload_n 0 d_C_tells_0 rfl rfl ?_
  refine J.getF (n := 29) hG d_C_tells_1 fl_C_38 ck_1_7 rfl ?_
  refine J.iload_n 1 d_C_tells_4 rfl rfl ?_
  refine J.iload_n 2 d_C_tells_5 rfl rfl ?_
  obtain ⟨x1, m2, zm2, h⟩ := jbd_some h
  refine J.cVi Y_L_areTwo (As := [.int v1, .int v2]) (rest := []) hG d_C_tells_6 mi_L_areTwo mv_L_areTwo lk_C_208 ⟨rfl, rfl, Nat.le_of_ble_eq_true rfl⟩ cq_29 cc_4 (c_L_areTwo hG zm2) rfl (Nat.le_trans jcN (Nat.le_of_ble_eq_true rfl)) ?_
  refine J.if_eq 19 d_C_tells_9 rfl (fun c => ?_) (fun c => ?_)
  · rw [if_pos c] at h
    refine J.iconst (v := (-1 : Int32)) d_C_tells_19 ki_m1 ?_
    cases h
    exact J.iret d_C_tells_20 rfl (vp_nar_int _) rfl
  · rw [if_neg c] at h
    refine J.iload_n 3 d_C_tells_12 rfl rfl ?_
    obtain ⟨x3, m4, zm4, h⟩ := jbd_some h
    refine J.cSi Y_C_isBearing (As := [.int v3]) (rest := []) d_C_tells_13 mi_C_isBearing ms_C_isBearing lk_C_230 ⟨rfl, rfl, Nat.le_of_ble_eq_true rfl⟩ (c_C_isBearing hG zm4) rfl (Nat.le_trans jcN (Nat.le_of_ble_eq_true rfl)) ?_
    refine J.nop (pc' := 16) rfl ?_
    refine J.if_ne 21 d_C_tells_16 rfl (fun c => ?_) (fun c => ?_)
    · rw [if_neg c] at h
      refine J.aload_n 0 d_C_tells_21 rfl rfl ?_
      refine J.getF (n := 29) hG d_C_tells_22 fl_C_38 ck_1_7 rfl ?_
      refine J.iload_n 1 d_C_tells_25 rfl rfl ?_
      refine J.iload_n 2 d_C_tells_26 rfl rfl ?_
      refine J.iload_n 3 d_C_tells_27 rfl rfl ?_
      obtain ⟨x5, m6, zm6, h⟩ := jbd_some h
      refine J.cVi Y_L_isTold (As := [.int v1, .int v2, .int v3]) (rest := []) hG d_C_tells_28 mi_L_isTold mv_L_isTold lk_C_233 ⟨rfl, rfl, Nat.le_of_ble_eq_true rfl⟩ cq_29 cc_4 (c_L_isTold hG zm6) rfl (Nat.le_trans jcN (Nat.le_of_ble_eq_true rfl)) ?_
      obtain ⟨x7, m8, zm8, h⟩ := jbd_some h
      refine J.cSi Y_C_truth (As := [.int x5]) (rest := []) d_C_tells_31 mi_C_truth ms_C_truth lk_C_237 ⟨rfl, rfl, Nat.le_of_ble_eq_true rfl⟩ (c_C_truth hG zm8) rfl (Nat.le_trans jcN (Nat.le_of_ble_eq_true rfl)) ?_
      cases h
      exact J.iret d_C_tells_34 rfl (vp_nar_int _) rfl
    · rw [if_pos c] at h
      refine J.iconst (v := (-1 : Int32)) d_C_tells_19 ki_m1 ?_
      cases h
      exact J.iret d_C_tells_20 rfl (vp_nar_int _) rfl

def f_C_errs (v1 : Int32) (m : jMem) : Option (Int32 × jMem) :=
  jbd (f_C_isBearing v1 m) fun x1 m2 =>
  if x1 = 0 then
    some ((-1 : Int32), m2)
  else
    jbd (f_L_toldWrongly v1 m2) fun x3 m4 =>
    some (x3, m4)
theorem c_C_errs {G : jG} (hG : jFul G) {v1 : Int32} {m : jMem} {r : (Int32 × jMem)} (h : f_C_errs v1 m = some r) : jCt G Y_C_errs [jr G 1, .int v1] m (jri r) := by
  refine jCt.ov (ls := [(0, jr G 1), (1, .int v1)]) mi_C_errs (jAvR (jAvI jAvN)) (Nat.le_of_ble_eq_true rfl) ?_ ⟨rfl, rfl⟩
  unfold f_C_errs at h
  refine J.iload_n 1 d_C_errs_0 rfl rfl ?_
  obtain ⟨x1, m2, zm2, h⟩ := jbd_some h
  refine J.cSi Y_C_isBearing (As := [.int v1]) (rest := []) d_C_errs_1 mi_C_isBearing ms_C_isBearing lk_C_230 ⟨rfl, rfl, Nat.le_of_ble_eq_true rfl⟩ (c_C_isBearing hG zm2) rfl (Nat.le_trans jcN (Nat.le_of_ble_eq_true rfl)) ?_
  refine J.if_eq 18 d_C_errs_4 rfl (fun c => ?_) (fun c => ?_)
  · rw [if_pos c] at h
    refine J.iconst (v := (-1 : Int32)) d_C_errs_18 ki_m1 ?_
    cases h
    exact J.iret d_C_errs_19 rfl (vp_nar_int _) rfl
  · rw [if_neg c] at h
    refine J.aload_n 0 d_C_errs_7 rfl rfl ?_
    refine J.getF (n := 29) hG d_C_errs_8 fl_C_38 ck_1_7 rfl ?_
    refine J.iload_n 1 d_C_errs_11 rfl rfl ?_
    obtain ⟨x3, m4, zm4, h⟩ := jbd_some h
    refine J.cVi Y_L_toldWrongly (As := [.int v1]) (rest := []) hG d_C_errs_12 mi_L_toldWrongly mv_L_toldWrongly lk_C_241 ⟨rfl, rfl, Nat.le_of_ble_eq_true rfl⟩ cq_29 cc_4 (c_L_toldWrongly hG zm4) rfl (Nat.le_trans jcN (Nat.le_of_ble_eq_true rfl)) ?_
    refine J.goto 19 d_C_errs_15 rfl ?_
    cases h
    exact J.iret d_C_errs_19 rfl (vp_nar_int _) rfl

def f_C_chains (v1 : Int32) (m : jMem) : Option (Int32 × jMem) :=
  jbd (f_L_isSet v1 m) fun x1 m2 =>
  if x1 = 0 then
    some ((-1 : Int32), m2)
  else
    jbd (f_N_fewest v1 m2) fun x3 m4 =>
    some (x3, m4)
theorem c_C_chains {G : jG} (hG : jFul G) {v1 : Int32} {m : jMem} {r : (Int32 × jMem)} (h : f_C_chains v1 m = some r) : jCt G Y_C_chains [jr G 1, .int v1] m (jri r) := by
  refine jCt.ov (ls := [(0, jr G 1), (1, .int v1)]) mi_C_chains (jAvR (jAvI jAvN)) (Nat.le_of_ble_eq_true rfl) ?_ ⟨rfl, rfl⟩
  unfold f_C_chains at h
  refine J.aload_n 0 d_C_chains_0 rfl rfl ?_
  refine J.getF (n := 29) hG d_C_chains_1 fl_C_38 ck_1_7 rfl ?_
  refine J.iload_n 1 d_C_chains_4 rfl rfl ?_
  obtain ⟨x1, m2, zm2, h⟩ := jbd_some h
  refine J.cVi Y_L_isSet (As := [.int v1]) (rest := []) hG d_C_chains_5 mi_L_isSet mv_L_isSet lk_C_244 ⟨rfl, rfl, Nat.le_of_ble_eq_true rfl⟩ cq_29 cc_4 (c_L_isSet hG zm2) rfl (Nat.le_trans jcN (Nat.le_of_ble_eq_true rfl)) ?_
  refine J.if_eq 22 d_C_chains_8 rfl (fun c => ?_) (fun c => ?_)
  · rw [if_pos c] at h
    refine J.iconst (v := (-1 : Int32)) d_C_chains_22 ki_m1 ?_
    cases h
    exact J.iret d_C_chains_23 rfl (vp_nar_int _) rfl
  · rw [if_neg c] at h
    refine J.aload_n 0 d_C_chains_11 rfl rfl ?_
    refine J.getF (n := 84) hG d_C_chains_12 fl_C_70 ck_1_11 rfl ?_
    refine J.iload_n 1 d_C_chains_15 rfl rfl ?_
    refine J.nop (pc' := 16) rfl ?_
    obtain ⟨x3, m4, zm4, h⟩ := jbd_some h
    refine J.cVi Y_N_fewest (As := [.int v1]) (rest := []) hG d_C_chains_16 mi_N_fewest mv_N_fewest lk_C_247 ⟨rfl, rfl, Nat.le_of_ble_eq_true rfl⟩ cq_84 cc_8 (c_N_fewest hG zm4) rfl (Nat.le_trans jcN (Nat.le_of_ble_eq_true rfl)) ?_
    refine J.goto 23 d_C_chains_19 rfl ?_
    cases h
    exact J.iret d_C_chains_23 rfl (vp_nar_int _) rfl

def f_C_waits (v1 : Int32) (v2 : Int32) (m : jMem) : Option (Int32 × jMem) :=
  jbd (f_D_holds v1 v2 m) fun x1 m2 =>
  if x1 = 0 then
    some ((-1 : Int32), m2)
  else
    jbd (f_C_missing v1 v2 m2) fun x3 m4 =>
    some (x3, m4)
theorem c_C_waits {G : jG} (hG : jFul G) {v1 : Int32} {v2 : Int32} {m : jMem} {r : (Int32 × jMem)} (h : f_C_waits v1 v2 m = some r) : jCt G Y_C_waits [jr G 1, .int v1, .int v2] m (jri r) := by
  refine jCt.ov (ls := [(0, jr G 1), (1, .int v1), (2, .int v2)]) mi_C_waits (jAvR (jAvI (jAvI jAvN))) (Nat.le_of_ble_eq_true rfl) ?_ ⟨rfl, rfl⟩
  unfold f_C_waits at h
  refine J.aload_n 0 d_C_waits_0 rfl rfl ?_
  refine J.getF (n := 65) hG d_C_waits_1 fl_C_52 ck_1_9 rfl ?_
  refine J.iload_n 1 d_C_waits_4 rfl rfl ?_
  refine J.iload_n 2 d_C_waits_5 rfl rfl ?_
  obtain ⟨x1, m2, zm2, h⟩ := jbd_some h
  refine J.cVi Y_D_holds (As := [.int v1, .int v2]) (rest := []) hG d_C_waits_6 mi_D_holds mv_D_holds lk_C_155 ⟨rfl, rfl, Nat.le_of_ble_eq_true rfl⟩ cq_65 cc_6 (c_D_holds hG zm2) rfl (Nat.le_trans jcN (Nat.le_of_ble_eq_true rfl)) ?_
  refine J.if_eq 21 d_C_waits_9 rfl (fun c => ?_) (fun c => ?_)
  · rw [if_pos c] at h
    refine J.iconst (v := (-1 : Int32)) d_C_waits_21 ki_m1 ?_
    cases h
    exact J.iret d_C_waits_22 rfl (vp_nar_int _) rfl
  · rw [if_neg c] at h
    refine J.aload_n 0 d_C_waits_12 rfl rfl ?_
    refine J.iload_n 1 d_C_waits_13 rfl rfl ?_
    refine J.nop (pc' := 14) rfl ?_
    refine J.iload_n 2 d_C_waits_14 rfl rfl ?_
    obtain ⟨x3, m4, zm4, h⟩ := jbd_some h
    refine J.cVi Y_C_missing (As := [.int v1, .int v2]) (rest := []) hG d_C_waits_15 mi_C_missing mv_C_missing lk_C_250 ⟨rfl, rfl, Nat.le_of_ble_eq_true rfl⟩ cq_1 cc_0 (c_C_missing hG zm4) rfl (Nat.le_trans jcN (Nat.le_of_ble_eq_true rfl)) ?_
    refine J.goto 22 d_C_waits_18 rfl ?_
    cases h
    exact J.iret d_C_waits_22 rfl (vp_nar_int _) rfl

def lp_C_ever_33 (v1 : Int32) (v2 : Int32) (k97 : Int32 → jMem → Option (Int32 × jMem)) : Nat → Int32 → Int32 → jMem → Option (Int32 × jMem)
  | 0, _, _, _ => none
  | n + 1, v3, v4, m =>
    if (m 29 15) ≤ v4 then
      k97 v3 m
    else
      jbd (f_D_holds v1 v4 m) fun x6 m7 =>
      if x6 = 0 then
        lp_C_ever_33 v1 v2 k97 n v3 (v4 + (1 : Int32)) m7
      else
        jbd (f_C_missing v1 v4 m7) fun x8 m9 =>
        if (x8 &&& (v2 ^^^ (-1 : Int32))) = 0 then
          if (x8 &&& v3) = 0 then
            lp_C_ever_33 v1 v2 k97 n v3 (v4 + (1 : Int32)) m9
          else
            jbd (f_C_bit v4 m9) fun x12 m13 =>
            lp_C_ever_33 v1 v2 k97 n (v3 ||| x12) (v4 + (1 : Int32)) m13
        else
          jbd (f_C_bit v4 m9) fun x10 m11 =>
          lp_C_ever_33 v1 v2 k97 n (v3 ||| x10) (v4 + (1 : Int32)) m11
def f_C_ever (v1 : Int32) (m : jMem) : Option (Int32 × jMem) :=
  jbd (f_C_isWriter v1 m) fun x1 m2 =>
  if x1 = 0 then
    some ((-1 : Int32), m2)
  else
    jld 1 m2 74 v1 fun x3 =>
    jbd (f_P_onTheWayTo v1 m2) fun x4 m5 =>
    lp_C_ever_33 v1 (x3 ||| x4) (fun w15 m14 =>
      some (w15, m14)) 5000 (0 : Int32) (0 : Int32) m5
theorem jlp_C_ever_33 {G : jG} (hG : jFul G) (v1 : Int32) (v2 : Int32) (k97 : Int32 → jMem → Option (Int32 × jMem))
    (hk97 : ∀ (v3 : Int32) (m : jMem) (r : (Int32 × jMem)), k97 v3 m = some r → J G Y_C_ever 97 [(3, .int v3)] [] m (jri r)) : ∀ (n : Nat) (v3 : Int32) (v4 : Int32) (m : jMem) (r : (Int32 × jMem)), lp_C_ever_33 v1 v2 k97 n v3 v4 m = some r → J G Y_C_ever 33 [(0, jr G 1), (1, .int v1), (2, .int v2), (3, .int v3), (4, .int v4)] [] m (jri r) := by
  intro n
  induction n with
  | zero => intro v3 v4 m r h; unfold lp_C_ever_33 at h; cases h
  | succ n ih =>
    intro v3 v4 m r h
    unfold lp_C_ever_33 at h
    refine J.iload 4 d_C_ever_33 rfl ?_
    refine J.aload_n 0 d_C_ever_35 rfl rfl ?_
    refine J.getF (n := 29) hG d_C_ever_36 fl_C_38 ck_1_7 rfl ?_
    refine J.getI hG d_C_ever_39 fl_C_259 ck_29_15 ?_
    refine J.icmp_ge 97 d_C_ever_42 rfl (fun c => ?_) (fun c => ?_)
    · rw [if_pos c] at h
      exact J.sub (ls' := [(3, .int v3)]) [3] rfl (hk97 v3 m _ h)
    · rw [if_neg c] at h
      refine J.aload_n 0 d_C_ever_45 rfl rfl ?_
      refine J.getF (n := 65) hG d_C_ever_46 fl_C_52 ck_1_9 rfl ?_
      refine J.iload_n 1 d_C_ever_49 rfl rfl ?_
      refine J.nop (pc' := 50) rfl ?_
      refine J.iload 4 d_C_ever_50 rfl ?_
      obtain ⟨x6, m7, zm7, h⟩ := jbd_some h
      refine J.cVi Y_D_holds (As := [.int v1, .int v4]) (rest := []) hG d_C_ever_52 mi_D_holds mv_D_holds lk_C_155 ⟨rfl, rfl, Nat.le_of_ble_eq_true rfl⟩ cq_65 cc_6 (c_D_holds hG zm7) rfl (Nat.le_trans jcN (Nat.le_of_ble_eq_true rfl)) ?_
      refine J.if_eq 91 d_C_ever_55 rfl (fun c => ?_) (fun c => ?_)
      · rw [if_pos c] at h
        refine J.iinc 4 (v := (1 : Int32)) (lv := [(4, .int (v4 + (1 : Int32))), (0, jr G 1), (1, .int v1), (2, .int v2), (3, .int v3)]) d_C_ever_91 rfl ki_1 (by decide) rfl ?_
        refine J.goto 33 d_C_ever_94 rfl ?_
        exact J.sub (ls' := [(0, jr G 1), (1, .int v1), (2, .int v2), (3, .int v3), (4, .int (v4 + (1 : Int32)))]) [1, 2, 3, 4, 0] rfl (ih v3 (v4 + (1 : Int32)) m7 _ h)
      · rw [if_neg c] at h
        refine J.aload_n 0 d_C_ever_58 rfl rfl ?_
        refine J.iload_n 1 d_C_ever_59 rfl rfl ?_
        refine J.iload 4 d_C_ever_60 rfl ?_
        obtain ⟨x8, m9, zm9, h⟩ := jbd_some h
        refine J.cVi Y_C_missing (As := [.int v1, .int v4]) (rest := []) hG d_C_ever_62 mi_C_missing mv_C_missing lk_C_250 ⟨rfl, rfl, Nat.le_of_ble_eq_true rfl⟩ cq_1 cc_0 (c_C_missing hG zm9) rfl (Nat.le_trans jcN (Nat.le_of_ble_eq_true rfl)) ?_
        refine J.istore (lv := [(5, .int x8), (0, jr G 1), (1, .int v1), (2, .int v2), (3, .int v3), (4, .int v4)]) d_C_ever_65 (by decide) rfl ?_
        refine J.nop (pc' := 67) rfl ?_
        refine J.iload 0 d_C_ever_67 rfl ?_
        refine J.iload_n 3 d_C_ever_69 rfl rfl ?_
        refine J.iconst (v := (-1 : Int32)) d_C_ever_70 ki_m1 ?_
        refine J.ixor d_C_ever_71 ?_
        refine J.iand d_C_ever_72 ?_
        refine J.if_ne 83 d_C_ever_73 rfl (fun c => ?_) (fun c => ?_)
        · rw [if_neg c] at h
          refine J.iload_n 4 d_C_ever_83 rfl rfl ?_
          refine J.iload 5 d_C_ever_84 rfl ?_
          obtain ⟨x10, m11, zm11, h⟩ := jbd_some h
          refine J.cSi Y_C_bit (As := [.int v4]) (rest := [.int v3]) d_C_ever_86 mi_C_bit ms_C_bit lk_C_262 ⟨rfl, rfl, Nat.le_of_ble_eq_true rfl⟩ (c_C_bit hG zm11) rfl (Nat.le_trans (jcI jcN) (Nat.le_of_ble_eq_true rfl)) ?_
          refine J.ior d_C_ever_89 ?_
          refine J.istore_n (lv := [(3, .int (v3 ||| x10)), (5, .int x8), (0, jr G 1), (1, .int v1), (2, .int v2), (4, .int v4)]) d_C_ever_90 rfl (by decide) rfl ?_
          refine J.iinc 5 (v := (1 : Int32)) (lv := [(4, .int (v4 + (1 : Int32))), (3, .int (v3 ||| x10)), (5, .int x8), (0, jr G 1), (1, .int v1), (2, .int v2)]) d_C_ever_91 rfl ki_1 (by decide) rfl ?_
          refine J.goto 33 d_C_ever_94 rfl ?_
          exact J.sub (ls' := [(0, jr G 1), (1, .int v1), (2, .int v2), (3, .int (v3 ||| x10)), (4, .int (v4 + (1 : Int32)))]) [3, 4, 5, 1, 0] rfl (ih (v3 ||| x10) (v4 + (1 : Int32)) m11 _ h)
        · rw [if_pos c] at h
          refine J.iload 0 d_C_ever_76 rfl ?_
          refine J.iload_n 4 d_C_ever_78 rfl rfl ?_
          refine J.nop (pc' := 79) rfl ?_
          refine J.iand d_C_ever_79 ?_
          refine J.if_eq 91 d_C_ever_80 rfl (fun c => ?_) (fun c => ?_)
          · rw [if_pos c] at h
            refine J.iinc 5 (v := (1 : Int32)) (lv := [(4, .int (v4 + (1 : Int32))), (5, .int x8), (0, jr G 1), (1, .int v1), (2, .int v2), (3, .int v3)]) d_C_ever_91 rfl ki_1 (by decide) rfl ?_
            refine J.goto 33 d_C_ever_94 rfl ?_
            exact J.sub (ls' := [(0, jr G 1), (1, .int v1), (2, .int v2), (3, .int v3), (4, .int (v4 + (1 : Int32)))]) [2, 3, 4, 5, 0] rfl (ih v3 (v4 + (1 : Int32)) m9 _ h)
          · rw [if_neg c] at h
            refine J.iload_n 4 d_C_ever_83 rfl rfl ?_
            refine J.iload 5 d_C_ever_84 rfl ?_
            obtain ⟨x12, m13, zm13, h⟩ := jbd_some h
            refine J.cSi Y_C_bit (As := [.int v4]) (rest := [.int v3]) d_C_ever_86 mi_C_bit ms_C_bit lk_C_262 ⟨rfl, rfl, Nat.le_of_ble_eq_true rfl⟩ (c_C_bit hG zm13) rfl (Nat.le_trans (jcI jcN) (Nat.le_of_ble_eq_true rfl)) ?_
            refine J.ior d_C_ever_89 ?_
            refine J.istore_n (lv := [(3, .int (v3 ||| x12)), (5, .int x8), (0, jr G 1), (1, .int v1), (2, .int v2), (4, .int v4)]) d_C_ever_90 rfl (by decide) rfl ?_
            refine J.iinc 5 (v := (1 : Int32)) (lv := [(4, .int (v4 + (1 : Int32))), (3, .int (v3 ||| x12)), (5, .int x8), (0, jr G 1), (1, .int v1), (2, .int v2)]) d_C_ever_91 rfl ki_1 (by decide) rfl ?_
            refine J.nop (pc' := 94) rfl ?_
            refine J.goto 33 d_C_ever_94 rfl ?_
            exact J.sub (ls' := [(0, jr G 1), (1, .int v1), (2, .int v2), (3, .int (v3 ||| x12)), (4, .int (v4 + (1 : Int32)))]) [3, 4, 5, 1, 0] rfl (ih (v3 ||| x12) (v4 + (1 : Int32)) m13 _ h)
theorem c_C_ever {G : jG} (hG : jFul G) {v1 : Int32} {m : jMem} {r : (Int32 × jMem)} (h : f_C_ever v1 m = some r) : jCt G Y_C_ever [jr G 1, .int v1] m (jri r) := by
  refine jCt.ov (ls := [(0, jr G 1), (1, .int v1)]) mi_C_ever (jAvR (jAvI jAvN)) (Nat.le_of_ble_eq_true rfl) ?_ ⟨rfl, rfl⟩
  unfold f_C_ever at h
  refine J.iload_n 1 d_C_ever_0 rfl rfl ?_
  obtain ⟨x1, m2, zm2, h⟩ := jbd_some h
  refine J.cSi Y_C_isWriter (As := [.int v1]) (rest := []) d_C_ever_1 mi_C_isWriter ms_C_isWriter lk_C_102 ⟨rfl, rfl, Nat.le_of_ble_eq_true rfl⟩ (c_C_isWriter hG zm2) rfl (Nat.le_trans jcN (Nat.le_of_ble_eq_true rfl)) ?_
  refine J.if_ne 9 d_C_ever_4 rfl (fun c => ?_) (fun c => ?_)
  · rw [if_neg c] at h
    refine J.aload_n 0 d_C_ever_9 rfl rfl ?_
    refine J.getF (n := 65) hG d_C_ever_10 fl_C_52 ck_1_9 rfl ?_
    refine J.getF (n := 74) hG d_C_ever_13 fl_C_253 ck_65_2 rfl ?_
    refine J.iload_n 1 d_C_ever_16 rfl rfl ?_
    obtain ⟨x3, ex3, g, h⟩ := jld_some h
    refine J.il hG d_C_ever_17 g ex3 ?_
    refine J.aload_n 0 d_C_ever_18 rfl rfl ?_
    refine J.getF (n := 45) hG d_C_ever_19 fl_C_45 ck_1_8 rfl ?_
    refine J.iload_n 1 d_C_ever_22 rfl rfl ?_
    refine J.nop (pc' := 23) rfl ?_
    obtain ⟨x4, m5, zm5, h⟩ := jbd_some h
    refine J.cVi Y_P_onTheWayTo (As := [.int v1]) (rest := [.int x3]) hG d_C_ever_23 mi_P_onTheWayTo mv_P_onTheWayTo lk_C_256 ⟨rfl, rfl, Nat.le_of_ble_eq_true rfl⟩ cq_45 cc_5 (c_P_onTheWayTo hG zm5) rfl (Nat.le_trans (jcI jcN) (Nat.le_of_ble_eq_true rfl)) ?_
    refine J.ior d_C_ever_26 ?_
    refine J.istore_n (lv := [(2, .int (x3 ||| x4)), (0, jr G 1), (1, .int v1)]) d_C_ever_27 rfl (by decide) rfl ?_
    refine J.iconst (v := (0 : Int32)) d_C_ever_28 ki_0 ?_
    refine J.istore_n (lv := [(3, .int (0 : Int32)), (2, .int (x3 ||| x4)), (0, jr G 1), (1, .int v1)]) d_C_ever_29 rfl (by decide) rfl ?_
    refine J.iconst (v := (0 : Int32)) d_C_ever_30 ki_0 ?_
    refine J.istore (lv := [(4, .int (0 : Int32)), (3, .int (0 : Int32)), (2, .int (x3 ||| x4)), (0, jr G 1), (1, .int v1)]) d_C_ever_31 (by decide) rfl ?_
    refine J.sub (ls' := [(0, jr G 1), (1, .int v1), (2, .int (x3 ||| x4)), (3, .int (0 : Int32)), (4, .int (0 : Int32))]) [3, 4, 2, 1, 0] rfl ?_
    refine jlp_C_ever_33 hG v1 (x3 ||| x4) _ ?_ _ (0 : Int32) (0 : Int32) m5 _ h
    intro w15 m14 r h
    refine J.iload_n 0 d_C_ever_97 rfl rfl ?_
    cases h
    exact J.iret d_C_ever_98 rfl (vp_nar_int _) rfl
  · rw [if_pos c] at h
    refine J.iconst (v := (-1 : Int32)) d_C_ever_7 ki_m1 ?_
    cases h
    exact J.iret d_C_ever_8 rfl (vp_nar_int _) rfl

def f_C_dayKnown (v1 : Int32) (v2 : Int32) (m : jMem) : Option (Int32 × jMem) :=
  jld 1 m 30 v2 fun x1 =>
  if x1 = v1 then
    jld 1 m 31 v2 fun x7 =>
    some (x7, m)
  else
    jld 1 m 75 v1 fun x2 =>
    jbd (f_C_isIn x2 v2 m) fun x3 m4 =>
    if x3 = 0 then
      some ((-1 : Int32), m4)
    else
      jl3 76 v1 fun q5 =>
      jld 1 m4 q5 v2 fun x6 =>
      some (x6, m4)
theorem c_C_dayKnown {G : jG} (hG : jFul G) {v1 : Int32} {v2 : Int32} {m : jMem} {r : (Int32 × jMem)} (h : f_C_dayKnown v1 v2 m = some r) : jCt G Y_C_dayKnown [jr G 1, .int v1, .int v2] m (jri r) := by
  refine jCt.ov (ls := [(0, jr G 1), (1, .int v1), (2, .int v2)]) mi_C_dayKnown (jAvR (jAvI (jAvI jAvN))) (Nat.le_of_ble_eq_true rfl) ?_ ⟨rfl, rfl⟩
  unfold f_C_dayKnown at h
  refine J.aload_n 0 d_C_dayKnown_0 rfl rfl ?_
  refine J.getF (n := 29) hG d_C_dayKnown_1 fl_C_38 ck_1_7 rfl ?_
  refine J.getF (n := 30) hG d_C_dayKnown_4 fl_C_172 ck_29_0 rfl ?_
  refine J.iload_n 2 d_C_dayKnown_7 rfl rfl ?_
  obtain ⟨x1, ex1, g, h⟩ := jld_some h
  refine J.il hG d_C_dayKnown_8 g ex1 ?_
  refine J.iload_n 1 d_C_dayKnown_9 rfl rfl ?_
  refine J.icmp_ne 23 d_C_dayKnown_10 rfl (fun c => ?_) (fun c => ?_)
  · rw [if_neg c] at h
    refine J.aload_n 0 d_C_dayKnown_23 rfl rfl ?_
    refine J.getF (n := 65) hG d_C_dayKnown_24 fl_C_52 ck_1_9 rfl ?_
    refine J.getF (n := 75) hG d_C_dayKnown_27 fl_C_345 ck_65_3 rfl ?_
    refine J.iload_n 1 d_C_dayKnown_30 rfl rfl ?_
    obtain ⟨x2, ex2, g, h⟩ := jld_some h
    refine J.il hG d_C_dayKnown_31 g ex2 ?_
    refine J.iload_n 2 d_C_dayKnown_32 rfl rfl ?_
    obtain ⟨x3, m4, zm4, h⟩ := jbd_some h
    refine J.cSi Y_C_isIn (As := [.int x2, .int v2]) (rest := []) d_C_dayKnown_33 mi_C_isIn ms_C_isIn lk_C_110 ⟨rfl, rfl, Nat.le_of_ble_eq_true rfl⟩ (c_C_isIn hG zm4) rfl (Nat.le_trans jcN (Nat.le_of_ble_eq_true rfl)) ?_
    refine J.if_eq 53 d_C_dayKnown_36 rfl (fun c => ?_) (fun c => ?_)
    · rw [if_pos c] at h
      refine J.iconst (v := (-1 : Int32)) d_C_dayKnown_53 ki_m1 ?_
      cases h
      exact J.iret d_C_dayKnown_54 rfl (vp_nar_int _) rfl
    · rw [if_neg c] at h
      refine J.nop (pc' := 39) rfl ?_
      refine J.aload_n 0 d_C_dayKnown_39 rfl rfl ?_
      refine J.getF (n := 65) hG d_C_dayKnown_40 fl_C_52 ck_1_9 rfl ?_
      refine J.getF (n := 76) hG d_C_dayKnown_43 fl_C_402 ck_65_4 rfl ?_
      refine J.iload_n 1 d_C_dayKnown_46 rfl rfl ?_
      obtain ⟨q5, eq5, gq5, h⟩ := jl3_some h
      refine J.a3 hG d_C_dayKnown_47 gq5 eq5 ?_
      refine J.iload_n 2 d_C_dayKnown_48 rfl rfl ?_
      obtain ⟨x6, ex6, g, h⟩ := jld_some h
      refine J.il hG d_C_dayKnown_49 g ex6 ?_
      refine J.goto 54 d_C_dayKnown_50 rfl ?_
      cases h
      exact J.iret d_C_dayKnown_54 rfl (vp_nar_int _) rfl
  · rw [if_pos c] at h
    refine J.aload_n 0 d_C_dayKnown_13 rfl rfl ?_
    refine J.nop (pc' := 14) rfl ?_
    refine J.getF (n := 29) hG d_C_dayKnown_14 fl_C_38 ck_1_7 rfl ?_
    refine J.getF (n := 31) hG d_C_dayKnown_17 fl_C_175 ck_29_1 rfl ?_
    refine J.iload_n 2 d_C_dayKnown_20 rfl rfl ?_
    obtain ⟨x7, ex7, g, h⟩ := jld_some h
    refine J.il hG d_C_dayKnown_21 g ex7 ?_
    cases h
    exact J.iret d_C_dayKnown_22 rfl (vp_nar_int _) rfl

def lp_C_whoKnewBy_5 (v1 : Int32) (v2 : Int32) (k47 : Int32 → jMem → Option (Int32 × jMem)) : Nat → Int32 → Int32 → jMem → Option (Int32 × jMem)
  | 0, _, _, _ => none
  | n + 1, v3, v4, m =>
    if (6 : Int32) ≤ v4 then
      k47 v3 m
    else
      jbd (f_C_dayKnown v4 v1 m) fun x1 m2 =>
      if x1 = (-1 : Int32) then
        lp_C_whoKnewBy_5 v1 v2 k47 n v3 (v4 + (1 : Int32)) m2
      else
        if v2 < x1 then
          lp_C_whoKnewBy_5 v1 v2 k47 n v3 (v4 + (1 : Int32)) m2
        else
          jbd (f_C_bit v4 m2) fun x3 m4 =>
          lp_C_whoKnewBy_5 v1 v2 k47 n (v3 ||| x3) (v4 + (1 : Int32)) m4
def f_C_whoKnewBy (v1 : Int32) (v2 : Int32) (m : jMem) : Option (Int32 × jMem) :=
  lp_C_whoKnewBy_5 v1 v2 (fun w6 m5 =>
    some (w6, m5)) 5000 (0 : Int32) (0 : Int32) m
theorem jlp_C_whoKnewBy_5 {G : jG} (hG : jFul G) (v1 : Int32) (v2 : Int32) (k47 : Int32 → jMem → Option (Int32 × jMem))
    (hk47 : ∀ (v3 : Int32) (m : jMem) (r : (Int32 × jMem)), k47 v3 m = some r → J G Y_C_whoKnewBy 47 [(3, .int v3)] [] m (jri r)) : ∀ (n : Nat) (v3 : Int32) (v4 : Int32) (m : jMem) (r : (Int32 × jMem)), lp_C_whoKnewBy_5 v1 v2 k47 n v3 v4 m = some r → J G Y_C_whoKnewBy 5 [(0, jr G 1), (1, .int v1), (2, .int v2), (3, .int v3), (4, .int v4)] [] m (jri r) := by
  intro n
  induction n with
  | zero => intro v3 v4 m r h; unfold lp_C_whoKnewBy_5 at h; cases h
  | succ n ih =>
    intro v3 v4 m r h
    unfold lp_C_whoKnewBy_5 at h
    refine J.iload 4 d_C_whoKnewBy_5 rfl ?_
    refine J.bipush (v := (6 : Int32)) d_C_whoKnewBy_7 kb_6 ?_
    refine J.icmp_ge 47 d_C_whoKnewBy_9 rfl (fun c => ?_) (fun c => ?_)
    · rw [if_pos c] at h
      exact J.sub (ls' := [(3, .int v3)]) [3] rfl (hk47 v3 m _ h)
    · rw [if_neg c] at h
      refine J.aload_n 0 d_C_whoKnewBy_12 rfl rfl ?_
      refine J.iload 4 d_C_whoKnewBy_13 rfl ?_
      refine J.iload_n 1 d_C_whoKnewBy_15 rfl rfl ?_
      obtain ⟨x1, m2, zm2, h⟩ := jbd_some h
      refine J.cVi Y_C_dayKnown (As := [.int v4, .int v1]) (rest := []) hG d_C_whoKnewBy_16 mi_C_dayKnown mv_C_dayKnown lk_C_268 ⟨rfl, rfl, Nat.le_of_ble_eq_true rfl⟩ cq_1 cc_0 (c_C_dayKnown hG zm2) rfl (Nat.le_trans jcN (Nat.le_of_ble_eq_true rfl)) ?_
      refine J.istore (lv := [(5, .int x1), (0, jr G 1), (1, .int v1), (2, .int v2), (3, .int v3), (4, .int v4)]) d_C_whoKnewBy_19 (by decide) rfl ?_
      refine J.nop (pc' := 21) rfl ?_
      refine J.iload 0 d_C_whoKnewBy_21 rfl ?_
      refine J.iconst (v := (-1 : Int32)) d_C_whoKnewBy_23 ki_m1 ?_
      refine J.icmp_eq 41 d_C_whoKnewBy_24 rfl (fun c => ?_) (fun c => ?_)
      · rw [if_pos c] at h
        refine J.iinc 5 (v := (1 : Int32)) (lv := [(4, .int (v4 + (1 : Int32))), (5, .int x1), (0, jr G 1), (1, .int v1), (2, .int v2), (3, .int v3)]) d_C_whoKnewBy_41 rfl ki_1 (by decide) rfl ?_
        refine J.goto 5 d_C_whoKnewBy_44 rfl ?_
        exact J.sub (ls' := [(0, jr G 1), (1, .int v1), (2, .int v2), (3, .int v3), (4, .int (v4 + (1 : Int32)))]) [2, 3, 4, 5, 0] rfl (ih v3 (v4 + (1 : Int32)) m2 _ h)
      · rw [if_neg c] at h
        refine J.iload 0 d_C_whoKnewBy_27 rfl ?_
        refine J.iload_n 3 d_C_whoKnewBy_29 rfl rfl ?_
        refine J.icmp_gt 41 d_C_whoKnewBy_30 rfl (fun c => ?_) (fun c => ?_)
        · rw [if_pos c] at h
          refine J.iinc 5 (v := (1 : Int32)) (lv := [(4, .int (v4 + (1 : Int32))), (5, .int x1), (0, jr G 1), (1, .int v1), (2, .int v2), (3, .int v3)]) d_C_whoKnewBy_41 rfl ki_1 (by decide) rfl ?_
          refine J.goto 5 d_C_whoKnewBy_44 rfl ?_
          exact J.sub (ls' := [(0, jr G 1), (1, .int v1), (2, .int v2), (3, .int v3), (4, .int (v4 + (1 : Int32)))]) [2, 3, 4, 5, 0] rfl (ih v3 (v4 + (1 : Int32)) m2 _ h)
        · rw [if_neg c] at h
          refine J.iload_n 4 d_C_whoKnewBy_33 rfl rfl ?_
          refine J.iload 5 d_C_whoKnewBy_34 rfl ?_
          refine J.nop (pc' := 36) rfl ?_
          obtain ⟨x3, m4, zm4, h⟩ := jbd_some h
          refine J.cSi Y_C_bit (As := [.int v4]) (rest := [.int v3]) d_C_whoKnewBy_36 mi_C_bit ms_C_bit lk_C_262 ⟨rfl, rfl, Nat.le_of_ble_eq_true rfl⟩ (c_C_bit hG zm4) rfl (Nat.le_trans (jcI jcN) (Nat.le_of_ble_eq_true rfl)) ?_
          refine J.ior d_C_whoKnewBy_39 ?_
          refine J.istore_n (lv := [(3, .int (v3 ||| x3)), (5, .int x1), (0, jr G 1), (1, .int v1), (2, .int v2), (4, .int v4)]) d_C_whoKnewBy_40 rfl (by decide) rfl ?_
          refine J.iinc 5 (v := (1 : Int32)) (lv := [(4, .int (v4 + (1 : Int32))), (3, .int (v3 ||| x3)), (5, .int x1), (0, jr G 1), (1, .int v1), (2, .int v2)]) d_C_whoKnewBy_41 rfl ki_1 (by decide) rfl ?_
          refine J.goto 5 d_C_whoKnewBy_44 rfl ?_
          exact J.sub (ls' := [(0, jr G 1), (1, .int v1), (2, .int v2), (3, .int (v3 ||| x3)), (4, .int (v4 + (1 : Int32)))]) [3, 4, 5, 1, 0] rfl (ih (v3 ||| x3) (v4 + (1 : Int32)) m4 _ h)
theorem c_C_whoKnewBy {G : jG} (hG : jFul G) {v1 : Int32} {v2 : Int32} {m : jMem} {r : (Int32 × jMem)} (h : f_C_whoKnewBy v1 v2 m = some r) : jCt G Y_C_whoKnewBy [jr G 1, .int v1, .int v2] m (jri r) := by
  refine jCt.ov (ls := [(0, jr G 1), (1, .int v1), (2, .int v2)]) mi_C_whoKnewBy (jAvR (jAvI (jAvI jAvN))) (Nat.le_of_ble_eq_true rfl) ?_ ⟨rfl, rfl⟩
  unfold f_C_whoKnewBy at h
  refine J.iconst (v := (0 : Int32)) d_C_whoKnewBy_0 ki_0 ?_
  refine J.istore_n (lv := [(3, .int (0 : Int32)), (0, jr G 1), (1, .int v1), (2, .int v2)]) d_C_whoKnewBy_1 rfl (by decide) rfl ?_
  refine J.iconst (v := (0 : Int32)) d_C_whoKnewBy_2 ki_0 ?_
  refine J.istore (lv := [(4, .int (0 : Int32)), (3, .int (0 : Int32)), (0, jr G 1), (1, .int v1), (2, .int v2)]) d_C_whoKnewBy_3 (by decide) rfl ?_
  refine J.sub (ls' := [(0, jr G 1), (1, .int v1), (2, .int v2), (3, .int (0 : Int32)), (4, .int (0 : Int32))]) [2, 3, 4, 1, 0] rfl ?_
  refine jlp_C_whoKnewBy_5 hG v1 v2 _ ?_ _ (0 : Int32) (0 : Int32) m _ h
  intro w6 m5 r h
  refine J.iload_n 0 d_C_whoKnewBy_47 rfl rfl ?_
  cases h
  exact J.iret d_C_whoKnewBy_48 rfl (vp_nar_int _) rfl

def f_C_has (v1 : Int32) (m : jMem) : Option (Int32 × jMem) :=
  jbd (f_L_isLetter v1 m) fun x1 m2 =>
  if x1 = 0 then
    some ((-1 : Int32), m2)
  else
    jbd (f_C_whoKnewBy v1 (999 : Int32) m2) fun x3 m4 =>
    some (x3, m4)
theorem c_C_has {G : jG} (hG : jFul G) {v1 : Int32} {m : jMem} {r : (Int32 × jMem)} (h : f_C_has v1 m = some r) : jCt G Y_C_has [jr G 1, .int v1] m (jri r) := by
  refine jCt.ov (ls := [(0, jr G 1), (1, .int v1)]) mi_C_has (jAvR (jAvI jAvN)) (Nat.le_of_ble_eq_true rfl) ?_ ⟨rfl, rfl⟩
  unfold f_C_has at h
  refine J.aload_n 0 d_C_has_0 rfl rfl ?_
  refine J.getF (n := 29) hG d_C_has_1 fl_C_38 ck_1_7 rfl ?_
  refine J.iload_n 1 d_C_has_4 rfl rfl ?_
  obtain ⟨x1, m2, zm2, h⟩ := jbd_some h
  refine J.cVi Y_L_isLetter (As := [.int v1]) (rest := []) hG d_C_has_5 mi_L_isLetter mv_L_isLetter lk_C_132 ⟨rfl, rfl, Nat.le_of_ble_eq_true rfl⟩ cq_29 cc_4 (c_L_isLetter hG zm2) rfl (Nat.le_trans jcN (Nat.le_of_ble_eq_true rfl)) ?_
  refine J.if_eq 22 d_C_has_8 rfl (fun c => ?_) (fun c => ?_)
  · rw [if_pos c] at h
    refine J.iconst (v := (-1 : Int32)) d_C_has_22 ki_m1 ?_
    cases h
    exact J.iret d_C_has_23 rfl (vp_nar_int _) rfl
  · rw [if_neg c] at h
    refine J.aload_n 0 d_C_has_11 rfl rfl ?_
    refine J.iload_n 1 d_C_has_12 rfl rfl ?_
    refine J.sipush (v := (999 : Int32)) d_C_has_13 ks_999 ?_
    refine J.nop (pc' := 16) rfl ?_
    obtain ⟨x3, m4, zm4, h⟩ := jbd_some h
    refine J.cVi Y_C_whoKnewBy (As := [.int v1, .int (999 : Int32)]) (rest := []) hG d_C_has_16 mi_C_whoKnewBy mv_C_whoKnewBy lk_C_265 ⟨rfl, rfl, Nat.le_of_ble_eq_true rfl⟩ cq_1 cc_0 (c_C_whoKnewBy hG zm4) rfl (Nat.le_trans jcN (Nat.le_of_ble_eq_true rfl)) ?_
    refine J.goto 23 d_C_has_19 rfl ?_
    cases h
    exact J.iret d_C_has_23 rfl (vp_nar_int _) rfl

def f_C_readOn (v1 : Int32) (v2 : Int32) (m : jMem) : Option (Int32 × jMem) :=
  jbd (f_C_isWriter v1 m) fun x1 m2 =>
  if x1 = 0 then
    some ((-1 : Int32), m2)
  else
    jbd (f_L_isLetter v2 m2) fun x3 m4 =>
    if x3 = 0 then
      some ((-1 : Int32), m4)
    else
      jbd (f_C_dayKnown v1 v2 m4) fun x5 m6 =>
      some (x5, m6)
theorem c_C_readOn {G : jG} (hG : jFul G) {v1 : Int32} {v2 : Int32} {m : jMem} {r : (Int32 × jMem)} (h : f_C_readOn v1 v2 m = some r) : jCt G Y_C_readOn [jr G 1, .int v1, .int v2] m (jri r) := by
  refine jCt.ov (ls := [(0, jr G 1), (1, .int v1), (2, .int v2)]) mi_C_readOn (jAvR (jAvI (jAvI jAvN))) (Nat.le_of_ble_eq_true rfl) ?_ ⟨rfl, rfl⟩
  unfold f_C_readOn at h
  refine J.iload_n 1 d_C_readOn_0 rfl rfl ?_
  obtain ⟨x1, m2, zm2, h⟩ := jbd_some h
  refine J.cSi Y_C_isWriter (As := [.int v1]) (rest := []) d_C_readOn_1 mi_C_isWriter ms_C_isWriter lk_C_102 ⟨rfl, rfl, Nat.le_of_ble_eq_true rfl⟩ (c_C_isWriter hG zm2) rfl (Nat.le_trans jcN (Nat.le_of_ble_eq_true rfl)) ?_
  refine J.if_eq 18 d_C_readOn_4 rfl (fun c => ?_) (fun c => ?_)
  · rw [if_pos c] at h
    refine J.iconst (v := (-1 : Int32)) d_C_readOn_18 ki_m1 ?_
    cases h
    exact J.iret d_C_readOn_19 rfl (vp_nar_int _) rfl
  · rw [if_neg c] at h
    refine J.aload_n 0 d_C_readOn_7 rfl rfl ?_
    refine J.getF (n := 29) hG d_C_readOn_8 fl_C_38 ck_1_7 rfl ?_
    refine J.iload_n 2 d_C_readOn_11 rfl rfl ?_
    obtain ⟨x3, m4, zm4, h⟩ := jbd_some h
    refine J.cVi Y_L_isLetter (As := [.int v2]) (rest := []) hG d_C_readOn_12 mi_L_isLetter mv_L_isLetter lk_C_132 ⟨rfl, rfl, Nat.le_of_ble_eq_true rfl⟩ cq_29 cc_4 (c_L_isLetter hG zm4) rfl (Nat.le_trans jcN (Nat.le_of_ble_eq_true rfl)) ?_
    refine J.if_ne 20 d_C_readOn_15 rfl (fun c => ?_) (fun c => ?_)
    · rw [if_neg c] at h
      refine J.aload_n 0 d_C_readOn_20 rfl rfl ?_
      refine J.iload_n 1 d_C_readOn_21 rfl rfl ?_
      refine J.iload_n 2 d_C_readOn_22 rfl rfl ?_
      obtain ⟨x5, m6, zm6, h⟩ := jbd_some h
      refine J.cVi Y_C_dayKnown (As := [.int v1, .int v2]) (rest := []) hG d_C_readOn_23 mi_C_dayKnown mv_C_dayKnown lk_C_268 ⟨rfl, rfl, Nat.le_of_ble_eq_true rfl⟩ cq_1 cc_0 (c_C_dayKnown hG zm6) rfl (Nat.le_trans jcN (Nat.le_of_ble_eq_true rfl)) ?_
      cases h
      exact J.iret d_C_readOn_26 rfl (vp_nar_int _) rfl
    · rw [if_pos c] at h
      refine J.nop (pc' := 18) rfl ?_
      refine J.iconst (v := (-1 : Int32)) d_C_readOn_18 ki_m1 ?_
      cases h
      exact J.iret d_C_readOn_19 rfl (vp_nar_int _) rfl

def f_C_spread (v1 : Int32) (v2 : Int32) (m : jMem) : Option (Int32 × jMem) :=
  jbd (f_L_isLetter v1 m) fun x1 m2 =>
  if x1 = 0 then
    some ((-1 : Int32), m2)
  else
    if v2 < 0 then
      some ((-1 : Int32), m2)
    else
      if v2 ≤ (999 : Int32) then
        jbd (f_C_whoKnewBy v1 v2 m2) fun x3 m4 =>
        some (x3, m4)
      else
        some ((-1 : Int32), m2)
theorem c_C_spread {G : jG} (hG : jFul G) {v1 : Int32} {v2 : Int32} {m : jMem} {r : (Int32 × jMem)} (h : f_C_spread v1 v2 m = some r) : jCt G Y_C_spread [jr G 1, .int v1, .int v2] m (jri r) := by
  refine jCt.ov (ls := [(0, jr G 1), (1, .int v1), (2, .int v2)]) mi_C_spread (jAvR (jAvI (jAvI jAvN))) (Nat.le_of_ble_eq_true rfl) ?_ ⟨rfl, rfl⟩
  unfold f_C_spread at h
  refine J.aload_n 0 d_C_spread_0 rfl rfl ?_
  refine J.getF (n := 29) hG d_C_spread_1 fl_C_38 ck_1_7 rfl ?_
  refine J.iload_n 1 d_C_spread_4 rfl rfl ?_
  obtain ⟨x1, m2, zm2, h⟩ := jbd_some h
  refine J.cVi Y_L_isLetter (As := [.int v1]) (rest := []) hG d_C_spread_5 mi_L_isLetter mv_L_isLetter lk_C_132 ⟨rfl, rfl, Nat.le_of_ble_eq_true rfl⟩ cq_29 cc_4 (c_L_isLetter hG zm2) rfl (Nat.le_trans jcN (Nat.le_of_ble_eq_true rfl)) ?_
  refine J.if_eq 22 d_C_spread_8 rfl (fun c => ?_) (fun c => ?_)
  · rw [if_pos c] at h
    refine J.iconst (v := (-1 : Int32)) d_C_spread_22 ki_m1 ?_
    cases h
    exact J.iret d_C_spread_23 rfl (vp_nar_int _) rfl
  · rw [if_neg c] at h
    refine J.iload_n 2 d_C_spread_11 rfl rfl ?_
    refine J.if_lt 22 d_C_spread_12 rfl (fun c => ?_) (fun c => ?_)
    · rw [if_pos c] at h
      refine J.iconst (v := (-1 : Int32)) d_C_spread_22 ki_m1 ?_
      cases h
      exact J.iret d_C_spread_23 rfl (vp_nar_int _) rfl
    · rw [if_neg c] at h
      refine J.iload_n 2 d_C_spread_15 rfl rfl ?_
      refine J.nop (pc' := 16) rfl ?_
      refine J.sipush (v := (999 : Int32)) d_C_spread_16 ks_999 ?_
      refine J.icmp_le 24 d_C_spread_19 rfl (fun c => ?_) (fun c => ?_)
      · rw [if_pos c] at h
        refine J.aload_n 0 d_C_spread_24 rfl rfl ?_
        refine J.iload_n 1 d_C_spread_25 rfl rfl ?_
        refine J.iload_n 2 d_C_spread_26 rfl rfl ?_
        obtain ⟨x3, m4, zm4, h⟩ := jbd_some h
        refine J.cVi Y_C_whoKnewBy (As := [.int v1, .int v2]) (rest := []) hG d_C_spread_27 mi_C_whoKnewBy mv_C_whoKnewBy lk_C_265 ⟨rfl, rfl, Nat.le_of_ble_eq_true rfl⟩ cq_1 cc_0 (c_C_whoKnewBy hG zm4) rfl (Nat.le_trans jcN (Nat.le_of_ble_eq_true rfl)) ?_
        cases h
        exact J.iret d_C_spread_30 rfl (vp_nar_int _) rfl
      · rw [if_neg c] at h
        refine J.iconst (v := (-1 : Int32)) d_C_spread_22 ki_m1 ?_
        cases h
        exact J.iret d_C_spread_23 rfl (vp_nar_int _) rfl

def lp_C_all_17 (v1 : Int32) (k53 : jMem → Option (Int32 × jMem)) (k68 : Int32 → jMem → Option (Int32 × jMem)) : Nat → Int32 → Int32 → jMem → Option (Int32 × jMem)
  | 0, _, _, _ => none
  | n + 1, v2, v3, m =>
    if (6 : Int32) ≤ v3 then
      k68 v2 m
    else
      jld 1 m 33 v1 fun x3 =>
      jbd (f_C_isIn x3 v3 m) fun x4 m5 =>
      if x4 = 0 then
        lp_C_all_17 v1 k53 k68 n v2 (v3 + (1 : Int32)) m5
      else
        jbd (f_C_dayKnown v3 v1 m5) fun x6 m7 =>
        if x6 = (-1 : Int32) then
          k53 m7
        else
          lp_C_all_17 v1 k53 k68 n (jmax v2 x6) (v3 + (1 : Int32)) m7
def f_C_all (v1 : Int32) (m : jMem) : Option (Int32 × jMem) :=
  jbd (f_L_isLetter v1 m) fun x1 m2 =>
  if x1 = 0 then
    some ((-1 : Int32), m2)
  else
    lp_C_all_17 v1 (fun m8 =>
      some ((-1 : Int32), m8)) (fun w10 m9 =>
      some (w10, m9)) 5000 (0 : Int32) (0 : Int32) m2
theorem jlp_C_all_17 {G : jG} (hG : jFul G) (v1 : Int32) (k53 : jMem → Option (Int32 × jMem)) (k68 : Int32 → jMem → Option (Int32 × jMem))
    (hk53 : ∀ (m : jMem) (r : (Int32 × jMem)), k53 m = some r → J G Y_C_all 53 [] [] m (jri r))
    (hk68 : ∀ (v2 : Int32) (m : jMem) (r : (Int32 × jMem)), k68 v2 m = some r → J G Y_C_all 68 [(2, .int v2)] [] m (jri r)) : ∀ (n : Nat) (v2 : Int32) (v3 : Int32) (m : jMem) (r : (Int32 × jMem)), lp_C_all_17 v1 k53 k68 n v2 v3 m = some r → J G Y_C_all 17 [(0, jr G 1), (1, .int v1), (2, .int v2), (3, .int v3)] [] m (jri r) := by
  intro n
  induction n with
  | zero => intro v2 v3 m r h; unfold lp_C_all_17 at h; cases h
  | succ n ih =>
    intro v2 v3 m r h
    unfold lp_C_all_17 at h
    refine J.iload_n 3 d_C_all_17 rfl rfl ?_
    refine J.bipush (v := (6 : Int32)) d_C_all_18 kb_6 ?_
    refine J.icmp_ge 68 d_C_all_20 rfl (fun c => ?_) (fun c => ?_)
    · rw [if_pos c] at h
      exact J.sub (ls' := [(2, .int v2)]) [2] rfl (hk68 v2 m _ h)
    · rw [if_neg c] at h
      refine J.aload_n 0 d_C_all_23 rfl rfl ?_
      refine J.getF (n := 29) hG d_C_all_24 fl_C_38 ck_1_7 rfl ?_
      refine J.getF (n := 33) hG d_C_all_27 fl_C_181 ck_29_3 rfl ?_
      refine J.iload_n 1 d_C_all_30 rfl rfl ?_
      obtain ⟨x3, ex3, g, h⟩ := jld_some h
      refine J.il hG d_C_all_31 g ex3 ?_
      refine J.nop (pc' := 32) rfl ?_
      refine J.iload_n 3 d_C_all_32 rfl rfl ?_
      obtain ⟨x4, m5, zm5, h⟩ := jbd_some h
      refine J.cSi Y_C_isIn (As := [.int x3, .int v3]) (rest := []) d_C_all_33 mi_C_isIn ms_C_isIn lk_C_110 ⟨rfl, rfl, Nat.le_of_ble_eq_true rfl⟩ (c_C_isIn hG zm5) rfl (Nat.le_trans jcN (Nat.le_of_ble_eq_true rfl)) ?_
      refine J.if_eq 62 d_C_all_36 rfl (fun c => ?_) (fun c => ?_)
      · rw [if_pos c] at h
        refine J.iinc 3 (v := (1 : Int32)) (lv := [(3, .int (v3 + (1 : Int32))), (0, jr G 1), (1, .int v1), (2, .int v2)]) d_C_all_62 rfl ki_1 (by decide) rfl ?_
        refine J.goto 17 d_C_all_65 rfl ?_
        exact J.sub (ls' := [(0, jr G 1), (1, .int v1), (2, .int v2), (3, .int (v3 + (1 : Int32)))]) [1, 2, 3, 0] rfl (ih v2 (v3 + (1 : Int32)) m5 _ h)
      · rw [if_neg c] at h
        refine J.aload_n 0 d_C_all_39 rfl rfl ?_
        refine J.iload_n 3 d_C_all_40 rfl rfl ?_
        refine J.iload_n 1 d_C_all_41 rfl rfl ?_
        obtain ⟨x6, m7, zm7, h⟩ := jbd_some h
        refine J.cVi Y_C_dayKnown (As := [.int v3, .int v1]) (rest := []) hG d_C_all_42 mi_C_dayKnown mv_C_dayKnown lk_C_268 ⟨rfl, rfl, Nat.le_of_ble_eq_true rfl⟩ cq_1 cc_0 (c_C_dayKnown hG zm7) rfl (Nat.le_trans jcN (Nat.le_of_ble_eq_true rfl)) ?_
        refine J.istore (lv := [(4, .int x6), (0, jr G 1), (1, .int v1), (2, .int v2), (3, .int v3)]) d_C_all_45 (by decide) rfl ?_
        refine J.nop (pc' := 47) rfl ?_
        refine J.iload 0 d_C_all_47 rfl ?_
        refine J.iconst (v := (-1 : Int32)) d_C_all_49 ki_m1 ?_
        refine J.icmp_ne 55 d_C_all_50 rfl (fun c => ?_) (fun c => ?_)
        · rw [if_neg c] at h
          refine J.iload_n 3 d_C_all_55 rfl rfl ?_
          refine J.iload 0 d_C_all_56 rfl ?_
          refine J.mx d_C_all_58 (jt_5 38 rfl rfl) (jt_3 69 rfl rfl) (jt_1 14 rfl rfl) (jt_3 70 rfl rfl) (Nat.le_trans jcN (Nat.le_of_ble_eq_true rfl)) ?_
          refine J.istore_n (lv := [(2, .int (jmax v2 x6)), (4, .int x6), (0, jr G 1), (1, .int v1), (3, .int v3)]) d_C_all_61 rfl (by decide) rfl ?_
          refine J.iinc 4 (v := (1 : Int32)) (lv := [(3, .int (v3 + (1 : Int32))), (2, .int (jmax v2 x6)), (4, .int x6), (0, jr G 1), (1, .int v1)]) d_C_all_62 rfl ki_1 (by decide) rfl ?_
          refine J.goto 17 d_C_all_65 rfl ?_
          exact J.sub (ls' := [(0, jr G 1), (1, .int v1), (2, .int (jmax v2 x6)), (3, .int (v3 + (1 : Int32)))]) [3, 4, 1, 0] rfl (ih (jmax v2 x6) (v3 + (1 : Int32)) m7 _ h)
        · rw [if_pos c] at h
          exact J.sub (ls' := []) [] rfl (hk53  m7 _ h)
theorem c_C_all {G : jG} (hG : jFul G) {v1 : Int32} {m : jMem} {r : (Int32 × jMem)} (h : f_C_all v1 m = some r) : jCt G Y_C_all [jr G 1, .int v1] m (jri r) := by
  refine jCt.ov (ls := [(0, jr G 1), (1, .int v1)]) mi_C_all (jAvR (jAvI jAvN)) (Nat.le_of_ble_eq_true rfl) ?_ ⟨rfl, rfl⟩
  unfold f_C_all at h
  refine J.aload_n 0 d_C_all_0 rfl rfl ?_
  refine J.getF (n := 29) hG d_C_all_1 fl_C_38 ck_1_7 rfl ?_
  refine J.iload_n 1 d_C_all_4 rfl rfl ?_
  obtain ⟨x1, m2, zm2, h⟩ := jbd_some h
  refine J.cVi Y_L_isLetter (As := [.int v1]) (rest := []) hG d_C_all_5 mi_L_isLetter mv_L_isLetter lk_C_132 ⟨rfl, rfl, Nat.le_of_ble_eq_true rfl⟩ cq_29 cc_4 (c_L_isLetter hG zm2) rfl (Nat.le_trans jcN (Nat.le_of_ble_eq_true rfl)) ?_
  refine J.if_ne 13 d_C_all_8 rfl (fun c => ?_) (fun c => ?_)
  · rw [if_neg c] at h
    refine J.iconst (v := (0 : Int32)) d_C_all_13 ki_0 ?_
    refine J.istore_n (lv := [(2, .int (0 : Int32)), (0, jr G 1), (1, .int v1)]) d_C_all_14 rfl (by decide) rfl ?_
    refine J.iconst (v := (0 : Int32)) d_C_all_15 ki_0 ?_
    refine J.istore_n (lv := [(3, .int (0 : Int32)), (2, .int (0 : Int32)), (0, jr G 1), (1, .int v1)]) d_C_all_16 rfl (by decide) rfl ?_
    refine J.sub (ls' := [(0, jr G 1), (1, .int v1), (2, .int (0 : Int32)), (3, .int (0 : Int32))]) [2, 3, 1, 0] rfl ?_
    refine jlp_C_all_17 hG v1 _ _ ?_ ?_ _ (0 : Int32) (0 : Int32) m2 _ h
    · intro m8 r h
      refine J.iconst (v := (-1 : Int32)) d_C_all_53 ki_m1 ?_
      cases h
      exact J.iret d_C_all_54 rfl (vp_nar_int _) rfl
    · intro w10 m9 r h
      refine J.iload_n 0 d_C_all_68 rfl rfl ?_
      cases h
      exact J.iret d_C_all_69 rfl (vp_nar_int _) rfl
  · rw [if_pos c] at h
    refine J.iconst (v := (-1 : Int32)) d_C_all_11 ki_m1 ?_
    cases h
    exact J.iret d_C_all_12 rfl (vp_nar_int _) rfl

def f_C_burn (v1 : Int32) (m : jMem) : Option (Int32 × jMem) :=
  jbd (f_L_isLeft v1 m) fun x1 m2 =>
  if x1 = 0 then
    some ((-1 : Int32), m2)
  else
    jbd (f_C_bit v1 m2) fun x3 m4 =>
    jpu m4 29 16 ((m2 29 16) &&& (x3 ^^^ (-1 : Int32))) fun m5 =>
    jbd (f_JI_bitCount (m5 29 16) m5) fun x6 m7 =>
    some (x6, m7)
theorem c_C_burn {G : jG} (hG : jFul G) {v1 : Int32} {m : jMem} {r : (Int32 × jMem)} (h : f_C_burn v1 m = some r) : jCt G Y_C_burn [jr G 1, .int v1] m (jri r) := by
  refine jCt.ov (ls := [(0, jr G 1), (1, .int v1)]) mi_C_burn (jAvR (jAvI jAvN)) (Nat.le_of_ble_eq_true rfl) ?_ ⟨rfl, rfl⟩
  unfold f_C_burn at h
  refine J.aload_n 0 d_C_burn_0 rfl rfl ?_
  refine J.getF (n := 29) hG d_C_burn_1 fl_C_38 ck_1_7 rfl ?_
  refine J.iload_n 1 d_C_burn_4 rfl rfl ?_
  obtain ⟨x1, m2, zm2, h⟩ := jbd_some h
  refine J.cVi Y_L_isLeft (As := [.int v1]) (rest := []) hG d_C_burn_5 mi_L_isLeft mv_L_isLeft lk_C_276 ⟨rfl, rfl, Nat.le_of_ble_eq_true rfl⟩ cq_29 cc_4 (c_L_isLeft hG zm2) rfl (Nat.le_trans jcN (Nat.le_of_ble_eq_true rfl)) ?_
  refine J.if_ne 13 d_C_burn_8 rfl (fun c => ?_) (fun c => ?_)
  · rw [if_neg c] at h
    refine J.aload_n 0 d_C_burn_13 rfl rfl ?_
    refine J.getF (n := 29) hG d_C_burn_14 fl_C_38 ck_1_7 rfl ?_
    refine J.dup d_C_burn_17 (jr_cat _ _) ?_
    refine J.getI hG d_C_burn_18 fl_C_279 ck_29_16 ?_
    refine J.iload_n 1 d_C_burn_21 rfl rfl ?_
    obtain ⟨x3, m4, zm4, h⟩ := jbd_some h
    refine J.cSi Y_C_bit (As := [.int v1]) (rest := [.int (m2 29 16), jr G 29]) d_C_burn_22 mi_C_bit ms_C_bit lk_C_262 ⟨rfl, rfl, Nat.le_of_ble_eq_true rfl⟩ (c_C_bit hG zm4) rfl (Nat.le_trans (jcI (jcR jcN)) (Nat.le_of_ble_eq_true rfl)) ?_
    refine J.iconst (v := (-1 : Int32)) d_C_burn_25 ki_m1 ?_
    refine J.ixor d_C_burn_26 ?_
    refine J.nop (pc' := 27) rfl ?_
    refine J.iand d_C_burn_27 ?_
    obtain ⟨m5, hm5, h⟩ := jpu_some h
    refine J.putI hG d_C_burn_28 fl_C_279 fp_4_16 ck_29_16 hm5 ?_
    refine J.aload_n 0 d_C_burn_31 rfl rfl ?_
    refine J.getF (n := 29) hG d_C_burn_32 fl_C_38 ck_1_7 rfl ?_
    refine J.getI hG d_C_burn_35 fl_C_279 ck_29_16 ?_
    obtain ⟨x6, m7, zm7, h⟩ := jbd_some h
    refine J.cSi Y_JI_bitCount (As := [.int (m5 29 16)]) (rest := []) d_C_burn_38 mi_JI_bitCount ms_JI_bitCount lk_C_282 ⟨rfl, rfl, Nat.le_of_ble_eq_true rfl⟩ (c_JI_bitCount hG zm7) rfl (Nat.le_trans jcN (Nat.le_of_ble_eq_true rfl)) ?_
    cases h
    exact J.iret d_C_burn_41 rfl (vp_nar_int _) rfl
  · rw [if_pos c] at h
    refine J.iconst (v := (-1 : Int32)) d_C_burn_11 ki_m1 ?_
    cases h
    exact J.iret d_C_burn_12 rfl (vp_nar_int _) rfl

def f_C_could (v1 : Int32) (v2 : Int32) (m : jMem) : Option (Int32 × jMem) :=
  if v1 = v2 then
    some ((-1 : Int32), m)
  else
    jbd (f_L_isLeft v1 m) fun x1 m2 =>
    if x1 = 0 then
      some ((-1 : Int32), m2)
    else
      jbd (f_L_isLeft v2 m2) fun x3 m4 =>
      if x3 = 0 then
        some ((-1 : Int32), m4)
      else
        jbd (f_L_citesThroughLeft v2 v1 m4) fun x5 m6 =>
        if x5 = 0 then
          jbd (f_U_mayHaveKnown v1 v2 m6) fun x7 m8 =>
          jbd (f_C_truth x7 m8) fun x9 m10 =>
          some (x9, m10)
        else
          some ((2 : Int32), m6)
theorem c_C_could {G : jG} (hG : jFul G) {v1 : Int32} {v2 : Int32} {m : jMem} {r : (Int32 × jMem)} (h : f_C_could v1 v2 m = some r) : jCt G Y_C_could [jr G 1, .int v1, .int v2] m (jri r) := by
  refine jCt.ov (ls := [(0, jr G 1), (1, .int v1), (2, .int v2)]) mi_C_could (jAvR (jAvI (jAvI jAvN))) (Nat.le_of_ble_eq_true rfl) ?_ ⟨rfl, rfl⟩
  unfold f_C_could at h
  refine J.iload_n 1 d_C_could_0 rfl rfl ?_
  refine J.iload_n 2 d_C_could_1 rfl rfl ?_
  refine J.icmp_eq 27 d_C_could_2 rfl (fun c => ?_) (fun c => ?_)
  · rw [if_pos c] at h
    refine J.iconst (v := (-1 : Int32)) d_C_could_27 ki_m1 ?_
    cases h
    exact J.iret d_C_could_28 rfl (vp_nar_int _) rfl
  · rw [if_neg c] at h
    refine J.aload_n 0 d_C_could_5 rfl rfl ?_
    refine J.getF (n := 29) hG d_C_could_6 fl_C_38 ck_1_7 rfl ?_
    refine J.iload_n 1 d_C_could_9 rfl rfl ?_
    obtain ⟨x1, m2, zm2, h⟩ := jbd_some h
    refine J.cVi Y_L_isLeft (As := [.int v1]) (rest := []) hG d_C_could_10 mi_L_isLeft mv_L_isLeft lk_C_276 ⟨rfl, rfl, Nat.le_of_ble_eq_true rfl⟩ cq_29 cc_4 (c_L_isLeft hG zm2) rfl (Nat.le_trans jcN (Nat.le_of_ble_eq_true rfl)) ?_
    refine J.if_eq 27 d_C_could_13 rfl (fun c => ?_) (fun c => ?_)
    · rw [if_pos c] at h
      refine J.iconst (v := (-1 : Int32)) d_C_could_27 ki_m1 ?_
      cases h
      exact J.iret d_C_could_28 rfl (vp_nar_int _) rfl
    · rw [if_neg c] at h
      refine J.nop (pc' := 16) rfl ?_
      refine J.aload_n 0 d_C_could_16 rfl rfl ?_
      refine J.getF (n := 29) hG d_C_could_17 fl_C_38 ck_1_7 rfl ?_
      refine J.iload_n 2 d_C_could_20 rfl rfl ?_
      obtain ⟨x3, m4, zm4, h⟩ := jbd_some h
      refine J.cVi Y_L_isLeft (As := [.int v2]) (rest := []) hG d_C_could_21 mi_L_isLeft mv_L_isLeft lk_C_276 ⟨rfl, rfl, Nat.le_of_ble_eq_true rfl⟩ cq_29 cc_4 (c_L_isLeft hG zm4) rfl (Nat.le_trans jcN (Nat.le_of_ble_eq_true rfl)) ?_
      refine J.if_ne 29 d_C_could_24 rfl (fun c => ?_) (fun c => ?_)
      · rw [if_neg c] at h
        refine J.aload_n 0 d_C_could_29 rfl rfl ?_
        refine J.getF (n := 29) hG d_C_could_30 fl_C_38 ck_1_7 rfl ?_
        refine J.iload_n 2 d_C_could_33 rfl rfl ?_
        refine J.iload_n 1 d_C_could_34 rfl rfl ?_
        obtain ⟨x5, m6, zm6, h⟩ := jbd_some h
        refine J.cVi Y_L_citesThroughLeft (As := [.int v2, .int v1]) (rest := []) hG d_C_could_35 mi_L_citesThroughLeft mv_L_citesThroughLeft lk_C_287 ⟨rfl, rfl, Nat.le_of_ble_eq_true rfl⟩ cq_29 cc_4 (c_L_citesThroughLeft hG zm6) rfl (Nat.le_trans jcN (Nat.le_of_ble_eq_true rfl)) ?_
        refine J.if_eq 43 d_C_could_38 rfl (fun c => ?_) (fun c => ?_)
        · rw [if_pos c] at h
          refine J.aload_n 0 d_C_could_43 rfl rfl ?_
          refine J.getF (n := 83) hG d_C_could_44 fl_C_61 ck_1_10 rfl ?_
          refine J.iload_n 1 d_C_could_47 rfl rfl ?_
          refine J.iload_n 2 d_C_could_48 rfl rfl ?_
          obtain ⟨x7, m8, zm8, h⟩ := jbd_some h
          refine J.cVi Y_U_mayHaveKnown (As := [.int v1, .int v2]) (rest := []) hG d_C_could_49 mi_U_mayHaveKnown mv_U_mayHaveKnown lk_C_290 ⟨rfl, rfl, Nat.le_of_ble_eq_true rfl⟩ cq_83 cc_7 (c_U_mayHaveKnown hG zm8) rfl (Nat.le_trans jcN (Nat.le_of_ble_eq_true rfl)) ?_
          obtain ⟨x9, m10, zm10, h⟩ := jbd_some h
          refine J.cSi Y_C_truth (As := [.int x7]) (rest := []) d_C_could_52 mi_C_truth ms_C_truth lk_C_237 ⟨rfl, rfl, Nat.le_of_ble_eq_true rfl⟩ (c_C_truth hG zm10) rfl (Nat.le_trans jcN (Nat.le_of_ble_eq_true rfl)) ?_
          cases h
          exact J.iret d_C_could_55 rfl (vp_nar_int _) rfl
        · rw [if_neg c] at h
          refine J.iconst (v := (2 : Int32)) d_C_could_41 ki_2 ?_
          cases h
          exact J.iret d_C_could_42 rfl (vp_nar_int _) rfl
      · rw [if_pos c] at h
        refine J.iconst (v := (-1 : Int32)) d_C_could_27 ki_m1 ?_
        cases h
        exact J.iret d_C_could_28 rfl (vp_nar_int _) rfl

def f_C_forged (v1 : Int32) (v2 : Int32) (v3 : Int32) (m : jMem) : Option (Int32 × jMem) :=
  jbd (f_C_isWriter v1 m) fun x1 m2 =>
  if x1 = 0 then
    some ((-1 : Int32), m2)
  else
    if v2 < 0 then
      some ((-1 : Int32), m2)
    else
      if (m2 1 6) < v2 then
        some ((-1 : Int32), m2)
      else
        if 0 ≤ v3 then
          jbd (f_U_verdict v1 v2 v3 m2) fun x3 m4 =>
          some (x3, m4)
        else
          some ((-1 : Int32), m2)
theorem c_C_forged {G : jG} (hG : jFul G) {v1 : Int32} {v2 : Int32} {v3 : Int32} {m : jMem} {r : (Int32 × jMem)} (h : f_C_forged v1 v2 v3 m = some r) : jCt G Y_C_forged [jr G 1, .int v1, .int v2, .int v3] m (jri r) := by
  refine jCt.ov (ls := [(0, jr G 1), (1, .int v1), (2, .int v2), (3, .int v3)]) mi_C_forged (jAvR (jAvI (jAvI (jAvI jAvN)))) (Nat.le_of_ble_eq_true rfl) ?_ ⟨rfl, rfl⟩
  unfold f_C_forged at h
  refine J.iload_n 1 d_C_forged_0 rfl rfl ?_
  obtain ⟨x1, m2, zm2, h⟩ := jbd_some h
  refine J.cSi Y_C_isWriter (As := [.int v1]) (rest := []) d_C_forged_1 mi_C_isWriter ms_C_isWriter lk_C_102 ⟨rfl, rfl, Nat.le_of_ble_eq_true rfl⟩ (c_C_isWriter hG zm2) rfl (Nat.le_trans jcN (Nat.le_of_ble_eq_true rfl)) ?_
  refine J.if_eq 23 d_C_forged_4 rfl (fun c => ?_) (fun c => ?_)
  · rw [if_pos c] at h
    refine J.iconst (v := (-1 : Int32)) d_C_forged_23 ki_m1 ?_
    cases h
    exact J.iret d_C_forged_24 rfl (vp_nar_int _) rfl
  · rw [if_neg c] at h
    refine J.iload_n 2 d_C_forged_7 rfl rfl ?_
    refine J.if_lt 23 d_C_forged_8 rfl (fun c => ?_) (fun c => ?_)
    · rw [if_pos c] at h
      refine J.iconst (v := (-1 : Int32)) d_C_forged_23 ki_m1 ?_
      cases h
      exact J.iret d_C_forged_24 rfl (vp_nar_int _) rfl
    · rw [if_neg c] at h
      refine J.iload_n 2 d_C_forged_11 rfl rfl ?_
      refine J.aload_n 0 d_C_forged_12 rfl rfl ?_
      refine J.getI hG d_C_forged_13 fl_C_139 ck_1_6 ?_
      refine J.nop (pc' := 16) rfl ?_
      refine J.icmp_gt 23 d_C_forged_16 rfl (fun c => ?_) (fun c => ?_)
      · rw [if_pos c] at h
        refine J.iconst (v := (-1 : Int32)) d_C_forged_23 ki_m1 ?_
        cases h
        exact J.iret d_C_forged_24 rfl (vp_nar_int _) rfl
      · rw [if_neg c] at h
        refine J.iload_n 3 d_C_forged_19 rfl rfl ?_
        refine J.if_ge 25 d_C_forged_20 rfl (fun c => ?_) (fun c => ?_)
        · rw [if_pos c] at h
          refine J.aload_n 0 d_C_forged_25 rfl rfl ?_
          refine J.getF (n := 83) hG d_C_forged_26 fl_C_61 ck_1_10 rfl ?_
          refine J.iload_n 1 d_C_forged_29 rfl rfl ?_
          refine J.iload_n 2 d_C_forged_30 rfl rfl ?_
          refine J.iload_n 3 d_C_forged_31 rfl rfl ?_
          obtain ⟨x3, m4, zm4, h⟩ := jbd_some h
          refine J.cVi Y_U_verdict (As := [.int v1, .int v2, .int v3]) (rest := []) hG d_C_forged_32 mi_U_verdict mv_U_verdict lk_C_293 ⟨rfl, rfl, Nat.le_of_ble_eq_true rfl⟩ cq_83 cc_7 (c_U_verdict hG zm4) rfl (Nat.le_trans jcN (Nat.le_of_ble_eq_true rfl)) ?_
          cases h
          exact J.iret d_C_forged_35 rfl (vp_nar_int _) rfl
        · rw [if_neg c] at h
          refine J.iconst (v := (-1 : Int32)) d_C_forged_23 ki_m1 ?_
          cases h
          exact J.iret d_C_forged_24 rfl (vp_nar_int _) rfl

def lp_C_forgers_23 (v1 : Int32) (v2 : Int32) (k58 : Int32 → jMem → Option (Int32 × jMem)) : Nat → Int32 → Int32 → jMem → Option (Int32 × jMem)
  | 0, _, _, _ => none
  | n + 1, v3, v4, m =>
    if (6 : Int32) ≤ v4 then
      k58 v3 m
    else
      jbd (f_U_verdict v4 v1 v2 m) fun x1 m2 =>
      if x1 = 0 then
        jbd (f_C_bit v4 m2) fun x3 m4 =>
        lp_C_forgers_23 v1 v2 k58 n (v3 ||| x3) (v4 + (1 : Int32)) m4
      else
        lp_C_forgers_23 v1 v2 k58 n v3 (v4 + (1 : Int32)) m2
def f_C_forgers (v1 : Int32) (v2 : Int32) (m : jMem) : Option (Int32 × jMem) :=
  if v1 < 0 then
    some ((-1 : Int32), m)
  else
    if (m 1 6) < v1 then
      some ((-1 : Int32), m)
    else
      if 0 ≤ v2 then
        lp_C_forgers_23 v1 v2 (fun w6 m5 =>
          some (w6, m5)) 5000 (0 : Int32) (0 : Int32) m
      else
        some ((-1 : Int32), m)
theorem jlp_C_forgers_23 {G : jG} (hG : jFul G) (v1 : Int32) (v2 : Int32) (k58 : Int32 → jMem → Option (Int32 × jMem))
    (hk58 : ∀ (v3 : Int32) (m : jMem) (r : (Int32 × jMem)), k58 v3 m = some r → J G Y_C_forgers 58 [(3, .int v3)] [] m (jri r)) : ∀ (n : Nat) (v3 : Int32) (v4 : Int32) (m : jMem) (r : (Int32 × jMem)), lp_C_forgers_23 v1 v2 k58 n v3 v4 m = some r → J G Y_C_forgers 23 [(0, jr G 1), (1, .int v1), (2, .int v2), (3, .int v3), (4, .int v4)] [] m (jri r) := by
  intro n
  induction n with
  | zero => intro v3 v4 m r h; unfold lp_C_forgers_23 at h; cases h
  | succ n ih =>
    intro v3 v4 m r h
    unfold lp_C_forgers_23 at h
    refine J.iload 4 d_C_forgers_23 rfl ?_
    refine J.bipush (v := (6 : Int32)) d_C_forgers_25 kb_6 ?_
    refine J.icmp_ge 58 d_C_forgers_27 rfl (fun c => ?_) (fun c => ?_)
    · rw [if_pos c] at h
      exact J.sub (ls' := [(3, .int v3)]) [3] rfl (hk58 v3 m _ h)
    · rw [if_neg c] at h
      refine J.aload_n 0 d_C_forgers_30 rfl rfl ?_
      refine J.getF (n := 83) hG d_C_forgers_31 fl_C_61 ck_1_10 rfl ?_
      refine J.iload 4 d_C_forgers_34 rfl ?_
      refine J.iload_n 1 d_C_forgers_36 rfl rfl ?_
      refine J.iload_n 2 d_C_forgers_37 rfl rfl ?_
      refine J.nop (pc' := 38) rfl ?_
      obtain ⟨x1, m2, zm2, h⟩ := jbd_some h
      refine J.cVi Y_U_verdict (As := [.int v4, .int v1, .int v2]) (rest := []) hG d_C_forgers_38 mi_U_verdict mv_U_verdict lk_C_293 ⟨rfl, rfl, Nat.le_of_ble_eq_true rfl⟩ cq_83 cc_7 (c_U_verdict hG zm2) rfl (Nat.le_trans jcN (Nat.le_of_ble_eq_true rfl)) ?_
      refine J.if_ne 52 d_C_forgers_41 rfl (fun c => ?_) (fun c => ?_)
      · rw [if_neg c] at h
        refine J.iinc 4 (v := (1 : Int32)) (lv := [(4, .int (v4 + (1 : Int32))), (0, jr G 1), (1, .int v1), (2, .int v2), (3, .int v3)]) d_C_forgers_52 rfl ki_1 (by decide) rfl ?_
        refine J.goto 23 d_C_forgers_55 rfl ?_
        exact J.sub (ls' := [(0, jr G 1), (1, .int v1), (2, .int v2), (3, .int v3), (4, .int (v4 + (1 : Int32)))]) [1, 2, 3, 4, 0] rfl (ih v3 (v4 + (1 : Int32)) m2 _ h)
      · rw [if_pos c] at h
        refine J.iload_n 3 d_C_forgers_44 rfl rfl ?_
        refine J.iload 4 d_C_forgers_45 rfl ?_
        obtain ⟨x3, m4, zm4, h⟩ := jbd_some h
        refine J.cSi Y_C_bit (As := [.int v4]) (rest := [.int v3]) d_C_forgers_47 mi_C_bit ms_C_bit lk_C_262 ⟨rfl, rfl, Nat.le_of_ble_eq_true rfl⟩ (c_C_bit hG zm4) rfl (Nat.le_trans (jcI jcN) (Nat.le_of_ble_eq_true rfl)) ?_
        refine J.ior d_C_forgers_50 ?_
        refine J.istore_n (lv := [(3, .int (v3 ||| x3)), (0, jr G 1), (1, .int v1), (2, .int v2), (4, .int v4)]) d_C_forgers_51 rfl (by decide) rfl ?_
        refine J.iinc 4 (v := (1 : Int32)) (lv := [(4, .int (v4 + (1 : Int32))), (3, .int (v3 ||| x3)), (0, jr G 1), (1, .int v1), (2, .int v2)]) d_C_forgers_52 rfl ki_1 (by decide) rfl ?_
        refine J.nop (pc' := 55) rfl ?_
        refine J.goto 23 d_C_forgers_55 rfl ?_
        exact J.sub (ls' := [(0, jr G 1), (1, .int v1), (2, .int v2), (3, .int (v3 ||| x3)), (4, .int (v4 + (1 : Int32)))]) [2, 3, 4, 1, 0] rfl (ih (v3 ||| x3) (v4 + (1 : Int32)) m4 _ h)
theorem c_C_forgers {G : jG} (hG : jFul G) {v1 : Int32} {v2 : Int32} {m : jMem} {r : (Int32 × jMem)} (h : f_C_forgers v1 v2 m = some r) : jCt G Y_C_forgers [jr G 1, .int v1, .int v2] m (jri r) := by
  refine jCt.ov (ls := [(0, jr G 1), (1, .int v1), (2, .int v2)]) mi_C_forgers (jAvR (jAvI (jAvI jAvN))) (Nat.le_of_ble_eq_true rfl) ?_ ⟨rfl, rfl⟩
  unfold f_C_forgers at h
  refine J.iload_n 1 d_C_forgers_0 rfl rfl ?_
  refine J.if_lt 16 d_C_forgers_1 rfl (fun c => ?_) (fun c => ?_)
  · rw [if_pos c] at h
    refine J.iconst (v := (-1 : Int32)) d_C_forgers_16 ki_m1 ?_
    cases h
    exact J.iret d_C_forgers_17 rfl (vp_nar_int _) rfl
  · rw [if_neg c] at h
    refine J.iload_n 1 d_C_forgers_4 rfl rfl ?_
    refine J.aload_n 0 d_C_forgers_5 rfl rfl ?_
    refine J.getI hG d_C_forgers_6 fl_C_139 ck_1_6 ?_
    refine J.icmp_gt 16 d_C_forgers_9 rfl (fun c => ?_) (fun c => ?_)
    · rw [if_pos c] at h
      refine J.iconst (v := (-1 : Int32)) d_C_forgers_16 ki_m1 ?_
      cases h
      exact J.iret d_C_forgers_17 rfl (vp_nar_int _) rfl
    · rw [if_neg c] at h
      refine J.iload_n 2 d_C_forgers_12 rfl rfl ?_
      refine J.if_ge 18 d_C_forgers_13 rfl (fun c => ?_) (fun c => ?_)
      · rw [if_pos c] at h
        refine J.iconst (v := (0 : Int32)) d_C_forgers_18 ki_0 ?_
        refine J.istore_n (lv := [(3, .int (0 : Int32)), (0, jr G 1), (1, .int v1), (2, .int v2)]) d_C_forgers_19 rfl (by decide) rfl ?_
        refine J.iconst (v := (0 : Int32)) d_C_forgers_20 ki_0 ?_
        refine J.istore (lv := [(4, .int (0 : Int32)), (3, .int (0 : Int32)), (0, jr G 1), (1, .int v1), (2, .int v2)]) d_C_forgers_21 (by decide) rfl ?_
        refine J.sub (ls' := [(0, jr G 1), (1, .int v1), (2, .int v2), (3, .int (0 : Int32)), (4, .int (0 : Int32))]) [2, 3, 4, 1, 0] rfl ?_
        refine jlp_C_forgers_23 hG v1 v2 _ ?_ _ (0 : Int32) (0 : Int32) m _ h
        intro w6 m5 r h
        refine J.iload_n 0 d_C_forgers_58 rfl rfl ?_
        cases h
        exact J.iret d_C_forgers_59 rfl (vp_nar_int _) rfl
      · rw [if_neg c] at h
        refine J.nop (pc' := 16) rfl ?_
        refine J.iconst (v := (-1 : Int32)) d_C_forgers_16 ki_m1 ?_
        cases h
        exact J.iret d_C_forgers_17 rfl (vp_nar_int _) rfl

def f_C_ahead (v1 : Int32) (v2 : Int32) (m : jMem) : Option (Int32 × jMem) :=
  jbd (f_L_areTwo v1 v2 m) fun x1 m2 =>
  if x1 = 0 then
    some ((-1 : Int32), m2)
  else
    if (12 : Int32) ≤ (m2 89 3) then
      some ((-1 : Int32), m2)
    else
      jbd (f_O_goesAgainst v1 v2 m2) fun x3 m4 =>
      if x3 = 0 then
        jbd (f_O_tell v1 v2 m4) fun u5 m6 =>
        some ((m6 89 3), m6)
      else
        some ((-1 : Int32), m4)
theorem c_C_ahead {G : jG} (hG : jFul G) {v1 : Int32} {v2 : Int32} {m : jMem} {r : (Int32 × jMem)} (h : f_C_ahead v1 v2 m = some r) : jCt G Y_C_ahead [jr G 1, .int v1, .int v2] m (jri r) := by
  refine jCt.ov (ls := [(0, jr G 1), (1, .int v1), (2, .int v2)]) mi_C_ahead (jAvR (jAvI (jAvI jAvN))) (Nat.le_of_ble_eq_true rfl) ?_ ⟨rfl, rfl⟩
  unfold f_C_ahead at h
  refine J.aload_n 0 d_C_ahead_0 rfl rfl ?_
  refine J.getF (n := 29) hG d_C_ahead_1 fl_C_38 ck_1_7 rfl ?_
  refine J.iload_n 1 d_C_ahead_4 rfl rfl ?_
  refine J.iload_n 2 d_C_ahead_5 rfl rfl ?_
  obtain ⟨x1, m2, zm2, h⟩ := jbd_some h
  refine J.cVi Y_L_areTwo (As := [.int v1, .int v2]) (rest := []) hG d_C_ahead_6 mi_L_areTwo mv_L_areTwo lk_C_208 ⟨rfl, rfl, Nat.le_of_ble_eq_true rfl⟩ cq_29 cc_4 (c_L_areTwo hG zm2) rfl (Nat.le_trans jcN (Nat.le_of_ble_eq_true rfl)) ?_
  refine J.if_eq 36 d_C_ahead_9 rfl (fun c => ?_) (fun c => ?_)
  · rw [if_pos c] at h
    refine J.iconst (v := (-1 : Int32)) d_C_ahead_36 ki_m1 ?_
    cases h
    exact J.iret d_C_ahead_37 rfl (vp_nar_int _) rfl
  · rw [if_neg c] at h
    refine J.aload_n 0 d_C_ahead_12 rfl rfl ?_
    refine J.getF (n := 89) hG d_C_ahead_13 fl_C_77 ck_1_12 rfl ?_
    refine J.nop (pc' := 16) rfl ?_
    refine J.getI hG d_C_ahead_16 fl_C_296 ck_89_3 ?_
    refine J.bipush (v := (12 : Int32)) d_C_ahead_19 kb_12 ?_
    refine J.icmp_ge 36 d_C_ahead_21 rfl (fun c => ?_) (fun c => ?_)
    · rw [if_pos c] at h
      refine J.iconst (v := (-1 : Int32)) d_C_ahead_36 ki_m1 ?_
      cases h
      exact J.iret d_C_ahead_37 rfl (vp_nar_int _) rfl
    · rw [if_neg c] at h
      refine J.aload_n 0 d_C_ahead_24 rfl rfl ?_
      refine J.getF (n := 89) hG d_C_ahead_25 fl_C_77 ck_1_12 rfl ?_
      refine J.iload_n 1 d_C_ahead_28 rfl rfl ?_
      refine J.iload_n 2 d_C_ahead_29 rfl rfl ?_
      obtain ⟨x3, m4, zm4, h⟩ := jbd_some h
      refine J.cVi Y_O_goesAgainst (As := [.int v1, .int v2]) (rest := []) hG d_C_ahead_30 mi_O_goesAgainst mv_O_goesAgainst lk_C_299 ⟨rfl, rfl, Nat.le_of_ble_eq_true rfl⟩ cq_89 cc_9 (c_O_goesAgainst hG zm4) rfl (Nat.le_trans jcN (Nat.le_of_ble_eq_true rfl)) ?_
      refine J.nop (pc' := 33) rfl ?_
      refine J.if_eq 38 d_C_ahead_33 rfl (fun c => ?_) (fun c => ?_)
      · rw [if_pos c] at h
        refine J.aload_n 0 d_C_ahead_38 rfl rfl ?_
        refine J.getF (n := 89) hG d_C_ahead_39 fl_C_77 ck_1_12 rfl ?_
        refine J.iload_n 1 d_C_ahead_42 rfl rfl ?_
        refine J.iload_n 2 d_C_ahead_43 rfl rfl ?_
        obtain ⟨u5, m6, zm6, h⟩ := jbd_some h
        refine J.cVv Y_O_tell (As := [.int v1, .int v2]) (rest := []) hG d_C_ahead_44 mi_O_tell mv_O_tell lk_C_302 ⟨rfl, rfl, Nat.le_of_ble_eq_true rfl⟩ cq_89 cc_9 (c_O_tell hG zm6) rfl (Nat.le_trans jcN (Nat.le_of_ble_eq_true rfl)) ?_
        refine J.aload_n 0 d_C_ahead_47 rfl rfl ?_
        refine J.getF (n := 89) hG d_C_ahead_48 fl_C_77 ck_1_12 rfl ?_
        refine J.getI hG d_C_ahead_51 fl_C_296 ck_89_3 ?_
        refine J.nop (pc' := 54) rfl ?_
        cases h
        exact J.iret d_C_ahead_54 rfl (vp_nar_int _) rfl
      · rw [if_neg c] at h
        refine J.iconst (v := (-1 : Int32)) d_C_ahead_36 ki_m1 ?_
        cases h
        exact J.iret d_C_ahead_37 rfl (vp_nar_int _) rfl

def f_C_orders (v1 : Int32) (m : jMem) : Option (Int32 × jMem) :=
  jbd (f_O_takesSet v1 m) fun x1 m2 =>
  if x1 = 0 then
    some ((-1 : Int32), m2)
  else
    jbd (f_O_howMany m2) fun x3 m4 =>
    some (x3, m4)
theorem c_C_orders {G : jG} (hG : jFul G) {v1 : Int32} {m : jMem} {r : (Int32 × jMem)} (h : f_C_orders v1 m = some r) : jCt G Y_C_orders [jr G 1, .int v1] m (jri r) := by
  refine jCt.ov (ls := [(0, jr G 1), (1, .int v1)]) mi_C_orders (jAvR (jAvI jAvN)) (Nat.le_of_ble_eq_true rfl) ?_ ⟨rfl, rfl⟩
  unfold f_C_orders at h
  refine J.aload_n 0 d_C_orders_0 rfl rfl ?_
  refine J.getF (n := 89) hG d_C_orders_1 fl_C_77 ck_1_12 rfl ?_
  refine J.iload_n 1 d_C_orders_4 rfl rfl ?_
  obtain ⟨x1, m2, zm2, h⟩ := jbd_some h
  refine J.cVi Y_O_takesSet (As := [.int v1]) (rest := []) hG d_C_orders_5 mi_O_takesSet mv_O_takesSet lk_C_305 ⟨rfl, rfl, Nat.le_of_ble_eq_true rfl⟩ cq_89 cc_9 (c_O_takesSet hG zm2) rfl (Nat.le_trans jcN (Nat.le_of_ble_eq_true rfl)) ?_
  refine J.if_eq 21 d_C_orders_8 rfl (fun c => ?_) (fun c => ?_)
  · rw [if_pos c] at h
    refine J.iconst (v := (-1 : Int32)) d_C_orders_21 ki_m1 ?_
    cases h
    exact J.iret d_C_orders_22 rfl (vp_nar_int _) rfl
  · rw [if_neg c] at h
    refine J.aload_n 0 d_C_orders_11 rfl rfl ?_
    refine J.getF (n := 89) hG d_C_orders_12 fl_C_77 ck_1_12 rfl ?_
    obtain ⟨x3, m4, zm4, h⟩ := jbd_some h
    refine J.cVi Y_O_howMany (As := []) (rest := []) hG d_C_orders_15 mi_O_howMany mv_O_howMany lk_C_308 ⟨rfl, rfl, Nat.le_of_ble_eq_true rfl⟩ cq_89 cc_9 (c_O_howMany hG zm4) rfl (Nat.le_trans jcN (Nat.le_of_ble_eq_true rfl)) ?_
    refine J.nop (pc' := 18) rfl ?_
    refine J.goto 22 d_C_orders_18 rfl ?_
    cases h
    exact J.iret d_C_orders_22 rfl (vp_nar_int _) rfl

def f_C_order (v1 : Int32) (v2 : Int32) (v3 : Int32) (m : jMem) : Option (Int32 × jMem) :=
  jbd (f_O_takesSet v1 m) fun x1 m2 =>
  if x1 = 0 then
    some ((-1 : Int32), m2)
  else
    if v2 < 0 then
      some ((-1 : Int32), m2)
    else
      if v3 < 0 then
        some ((-1 : Int32), m2)
      else
        if v3 < (m2 89 6) then
          jbd (f_O_letterAt v2 v3 m2) fun x3 m4 =>
          some (x3, m4)
        else
          some ((-1 : Int32), m2)
theorem c_C_order {G : jG} (hG : jFul G) {v1 : Int32} {v2 : Int32} {v3 : Int32} {m : jMem} {r : (Int32 × jMem)} (h : f_C_order v1 v2 v3 m = some r) : jCt G Y_C_order [jr G 1, .int v1, .int v2, .int v3] m (jri r) := by
  refine jCt.ov (ls := [(0, jr G 1), (1, .int v1), (2, .int v2), (3, .int v3)]) mi_C_order (jAvR (jAvI (jAvI (jAvI jAvN)))) (Nat.le_of_ble_eq_true rfl) ?_ ⟨rfl, rfl⟩
  unfold f_C_order at h
  refine J.aload_n 0 d_C_order_0 rfl rfl ?_
  refine J.getF (n := 89) hG d_C_order_1 fl_C_77 ck_1_12 rfl ?_
  refine J.iload_n 1 d_C_order_4 rfl rfl ?_
  obtain ⟨x1, m2, zm2, h⟩ := jbd_some h
  refine J.cVi Y_O_takesSet (As := [.int v1]) (rest := []) hG d_C_order_5 mi_O_takesSet mv_O_takesSet lk_C_305 ⟨rfl, rfl, Nat.le_of_ble_eq_true rfl⟩ cq_89 cc_9 (c_O_takesSet hG zm2) rfl (Nat.le_trans jcN (Nat.le_of_ble_eq_true rfl)) ?_
  refine J.if_eq 30 d_C_order_8 rfl (fun c => ?_) (fun c => ?_)
  · rw [if_pos c] at h
    refine J.iconst (v := (-1 : Int32)) d_C_order_30 ki_m1 ?_
    cases h
    exact J.iret d_C_order_31 rfl (vp_nar_int _) rfl
  · rw [if_neg c] at h
    refine J.iload_n 2 d_C_order_11 rfl rfl ?_
    refine J.if_lt 30 d_C_order_12 rfl (fun c => ?_) (fun c => ?_)
    · rw [if_pos c] at h
      refine J.iconst (v := (-1 : Int32)) d_C_order_30 ki_m1 ?_
      cases h
      exact J.iret d_C_order_31 rfl (vp_nar_int _) rfl
    · rw [if_neg c] at h
      refine J.iload_n 3 d_C_order_15 rfl rfl ?_
      refine J.nop (pc' := 16) rfl ?_
      refine J.if_lt 30 d_C_order_16 rfl (fun c => ?_) (fun c => ?_)
      · rw [if_pos c] at h
        refine J.iconst (v := (-1 : Int32)) d_C_order_30 ki_m1 ?_
        cases h
        exact J.iret d_C_order_31 rfl (vp_nar_int _) rfl
      · rw [if_neg c] at h
        refine J.iload_n 3 d_C_order_19 rfl rfl ?_
        refine J.aload_n 0 d_C_order_20 rfl rfl ?_
        refine J.getF (n := 89) hG d_C_order_21 fl_C_77 ck_1_12 rfl ?_
        refine J.getI hG d_C_order_24 fl_C_312 ck_89_6 ?_
        refine J.icmp_lt 32 d_C_order_27 rfl (fun c => ?_) (fun c => ?_)
        · rw [if_pos c] at h
          refine J.aload_n 0 d_C_order_32 rfl rfl ?_
          refine J.getF (n := 89) hG d_C_order_33 fl_C_77 ck_1_12 rfl ?_
          refine J.iload_n 2 d_C_order_36 rfl rfl ?_
          refine J.iload_n 3 d_C_order_37 rfl rfl ?_
          obtain ⟨x3, m4, zm4, h⟩ := jbd_some h
          refine J.cVi Y_O_letterAt (As := [.int v2, .int v3]) (rest := []) hG d_C_order_38 mi_O_letterAt mv_O_letterAt lk_C_313 ⟨rfl, rfl, Nat.le_of_ble_eq_true rfl⟩ cq_89 cc_9 (c_O_letterAt hG zm4) rfl (Nat.le_trans jcN (Nat.le_of_ble_eq_true rfl)) ?_
          cases h
          exact J.iret d_C_order_41 rfl (vp_nar_int _) rfl
        · rw [if_neg c] at h
          refine J.iconst (v := (-1 : Int32)) d_C_order_30 ki_m1 ?_
          cases h
          exact J.iret d_C_order_31 rfl (vp_nar_int _) rfl

def f_C_first (v1 : Int32) (v2 : Int32) (v3 : Int32) (m : jMem) : Option (Int32 × jMem) :=
  jbd (f_O_takesSet v1 m) fun x1 m2 =>
  if x1 = 0 then
    some ((-1 : Int32), m2)
  else
    if v2 = v3 then
      some ((-1 : Int32), m2)
    else
      jbd (f_C_isIn v1 v2 m2) fun x3 m4 =>
      if x3 = 0 then
        some ((-1 : Int32), m4)
      else
        jbd (f_C_isIn v1 v3 m4) fun x5 m6 =>
        if x5 = 0 then
          some ((-1 : Int32), m6)
        else
          jbd (f_O_demand v2 v3 m6) fun u7 m8 =>
          jbd (f_O_howMany m8) fun x9 m10 =>
          some (x9, m10)
theorem c_C_first {G : jG} (hG : jFul G) {v1 : Int32} {v2 : Int32} {v3 : Int32} {m : jMem} {r : (Int32 × jMem)} (h : f_C_first v1 v2 v3 m = some r) : jCt G Y_C_first [jr G 1, .int v1, .int v2, .int v3] m (jri r) := by
  refine jCt.ov (ls := [(0, jr G 1), (1, .int v1), (2, .int v2), (3, .int v3)]) mi_C_first (jAvR (jAvI (jAvI (jAvI jAvN)))) (Nat.le_of_ble_eq_true rfl) ?_ ⟨rfl, rfl⟩
  unfold f_C_first at h
  refine J.aload_n 0 d_C_first_0 rfl rfl ?_
  refine J.getF (n := 89) hG d_C_first_1 fl_C_77 ck_1_12 rfl ?_
  refine J.iload_n 1 d_C_first_4 rfl rfl ?_
  obtain ⟨x1, m2, zm2, h⟩ := jbd_some h
  refine J.cVi Y_O_takesSet (As := [.int v1]) (rest := []) hG d_C_first_5 mi_O_takesSet mv_O_takesSet lk_C_305 ⟨rfl, rfl, Nat.le_of_ble_eq_true rfl⟩ cq_89 cc_9 (c_O_takesSet hG zm2) rfl (Nat.le_trans jcN (Nat.le_of_ble_eq_true rfl)) ?_
  refine J.if_eq 32 d_C_first_8 rfl (fun c => ?_) (fun c => ?_)
  · rw [if_pos c] at h
    refine J.iconst (v := (-1 : Int32)) d_C_first_32 ki_m1 ?_
    cases h
    exact J.iret d_C_first_33 rfl (vp_nar_int _) rfl
  · rw [if_neg c] at h
    refine J.iload_n 2 d_C_first_11 rfl rfl ?_
    refine J.iload_n 3 d_C_first_12 rfl rfl ?_
    refine J.icmp_eq 32 d_C_first_13 rfl (fun c => ?_) (fun c => ?_)
    · rw [if_pos c] at h
      refine J.iconst (v := (-1 : Int32)) d_C_first_32 ki_m1 ?_
      cases h
      exact J.iret d_C_first_33 rfl (vp_nar_int _) rfl
    · rw [if_neg c] at h
      refine J.nop (pc' := 16) rfl ?_
      refine J.iload_n 1 d_C_first_16 rfl rfl ?_
      refine J.iload_n 2 d_C_first_17 rfl rfl ?_
      obtain ⟨x3, m4, zm4, h⟩ := jbd_some h
      refine J.cSi Y_C_isIn (As := [.int v1, .int v2]) (rest := []) d_C_first_18 mi_C_isIn ms_C_isIn lk_C_110 ⟨rfl, rfl, Nat.le_of_ble_eq_true rfl⟩ (c_C_isIn hG zm4) rfl (Nat.le_trans jcN (Nat.le_of_ble_eq_true rfl)) ?_
      refine J.if_eq 32 d_C_first_21 rfl (fun c => ?_) (fun c => ?_)
      · rw [if_pos c] at h
        refine J.iconst (v := (-1 : Int32)) d_C_first_32 ki_m1 ?_
        cases h
        exact J.iret d_C_first_33 rfl (vp_nar_int _) rfl
      · rw [if_neg c] at h
        refine J.iload_n 1 d_C_first_24 rfl rfl ?_
        refine J.iload_n 3 d_C_first_25 rfl rfl ?_
        obtain ⟨x5, m6, zm6, h⟩ := jbd_some h
        refine J.cSi Y_C_isIn (As := [.int v1, .int v3]) (rest := []) d_C_first_26 mi_C_isIn ms_C_isIn lk_C_110 ⟨rfl, rfl, Nat.le_of_ble_eq_true rfl⟩ (c_C_isIn hG zm6) rfl (Nat.le_trans jcN (Nat.le_of_ble_eq_true rfl)) ?_
        refine J.if_ne 34 d_C_first_29 rfl (fun c => ?_) (fun c => ?_)
        · rw [if_neg c] at h
          refine J.aload_n 0 d_C_first_34 rfl rfl ?_
          refine J.getF (n := 89) hG d_C_first_35 fl_C_77 ck_1_12 rfl ?_
          refine J.iload_n 2 d_C_first_38 rfl rfl ?_
          refine J.iload_n 3 d_C_first_39 rfl rfl ?_
          obtain ⟨u7, m8, zm8, h⟩ := jbd_some h
          refine J.cVv Y_O_demand (As := [.int v2, .int v3]) (rest := []) hG d_C_first_40 mi_O_demand mv_O_demand lk_C_314 ⟨rfl, rfl, Nat.le_of_ble_eq_true rfl⟩ cq_89 cc_9 (c_O_demand hG zm8) rfl (Nat.le_trans jcN (Nat.le_of_ble_eq_true rfl)) ?_
          refine J.aload_n 0 d_C_first_43 rfl rfl ?_
          refine J.getF (n := 89) hG d_C_first_44 fl_C_77 ck_1_12 rfl ?_
          obtain ⟨x9, m10, zm10, h⟩ := jbd_some h
          refine J.cVi Y_O_howMany (As := []) (rest := []) hG d_C_first_47 mi_O_howMany mv_O_howMany lk_C_308 ⟨rfl, rfl, Nat.le_of_ble_eq_true rfl⟩ cq_89 cc_9 (c_O_howMany hG zm10) rfl (Nat.le_trans jcN (Nat.le_of_ble_eq_true rfl)) ?_
          refine J.nop (pc' := 50) rfl ?_
          cases h
          exact J.iret d_C_first_50 rfl (vp_nar_int _) rfl
        · rw [if_pos c] at h
          refine J.nop (pc' := 32) rfl ?_
          refine J.iconst (v := (-1 : Int32)) d_C_first_32 ki_m1 ?_
          cases h
          exact J.iret d_C_first_33 rfl (vp_nar_int _) rfl

def f_C_ask (v1 : Int32) (m : jMem) : Option (Int32 × jMem) :=
  jbd (f_O_takesSet v1 m) fun x1 m2 =>
  if x1 = 0 then
    some ((-1 : Int32), m2)
  else
    jbd (f_O_bestQuestion m2) fun x3 m4 =>
    some (x3, m4)
theorem c_C_ask {G : jG} (hG : jFul G) {v1 : Int32} {m : jMem} {r : (Int32 × jMem)} (h : f_C_ask v1 m = some r) : jCt G Y_C_ask [jr G 1, .int v1] m (jri r) := by
  refine jCt.ov (ls := [(0, jr G 1), (1, .int v1)]) mi_C_ask (jAvR (jAvI jAvN)) (Nat.le_of_ble_eq_true rfl) ?_ ⟨rfl, rfl⟩
  unfold f_C_ask at h
  refine J.aload_n 0 d_C_ask_0 rfl rfl ?_
  refine J.getF (n := 89) hG d_C_ask_1 fl_C_77 ck_1_12 rfl ?_
  refine J.iload_n 1 d_C_ask_4 rfl rfl ?_
  obtain ⟨x1, m2, zm2, h⟩ := jbd_some h
  refine J.cVi Y_O_takesSet (As := [.int v1]) (rest := []) hG d_C_ask_5 mi_O_takesSet mv_O_takesSet lk_C_305 ⟨rfl, rfl, Nat.le_of_ble_eq_true rfl⟩ cq_89 cc_9 (c_O_takesSet hG zm2) rfl (Nat.le_trans jcN (Nat.le_of_ble_eq_true rfl)) ?_
  refine J.if_eq 21 d_C_ask_8 rfl (fun c => ?_) (fun c => ?_)
  · rw [if_pos c] at h
    refine J.iconst (v := (-1 : Int32)) d_C_ask_21 ki_m1 ?_
    cases h
    exact J.iret d_C_ask_22 rfl (vp_nar_int _) rfl
  · rw [if_neg c] at h
    refine J.aload_n 0 d_C_ask_11 rfl rfl ?_
    refine J.getF (n := 89) hG d_C_ask_12 fl_C_77 ck_1_12 rfl ?_
    obtain ⟨x3, m4, zm4, h⟩ := jbd_some h
    refine J.cVi Y_O_bestQuestion (As := []) (rest := []) hG d_C_ask_15 mi_O_bestQuestion mv_O_bestQuestion lk_C_317 ⟨rfl, rfl, Nat.le_of_ble_eq_true rfl⟩ cq_89 cc_9 (c_O_bestQuestion hG zm4) rfl (Nat.le_trans jcN (Nat.le_of_ble_eq_true rfl)) ?_
    refine J.nop (pc' := 18) rfl ?_
    refine J.goto 22 d_C_ask_18 rfl ?_
    cases h
    exact J.iret d_C_ask_22 rfl (vp_nar_int _) rfl

def f_C_hangs (v1 : Int32) (v2 : Int32) (m : jMem) : Option (Int32 × jMem) :=
  jbd (f_L_isTakenBack v1 m) fun x1 m2 =>
  if x1 = 0 then
    some ((-1 : Int32), m2)
  else
    if v2 < 0 then
      some ((-1 : Int32), m2)
    else
      if v2 ≤ (1 : Int32) then
        if v2 = 0 then
          jbd (f_L_hanging v1 (1 : Int32) m2) fun x5 m6 =>
          some (x5, m6)
        else
          jbd (f_L_hanging v1 (0 : Int32) m2) fun x3 m4 =>
          some (x3, m4)
      else
        some ((-1 : Int32), m2)
theorem c_C_hangs {G : jG} (hG : jFul G) {v1 : Int32} {v2 : Int32} {m : jMem} {r : (Int32 × jMem)} (h : f_C_hangs v1 v2 m = some r) : jCt G Y_C_hangs [jr G 1, .int v1, .int v2] m (jri r) := by
  refine jCt.ov (ls := [(0, jr G 1), (1, .int v1), (2, .int v2)]) mi_C_hangs (jAvR (jAvI (jAvI jAvN))) (Nat.le_of_ble_eq_true rfl) ?_ ⟨rfl, rfl⟩
  unfold f_C_hangs at h
  refine J.aload_n 0 d_C_hangs_0 rfl rfl ?_
  refine J.getF (n := 29) hG d_C_hangs_1 fl_C_38 ck_1_7 rfl ?_
  refine J.iload_n 1 d_C_hangs_4 rfl rfl ?_
  obtain ⟨x1, m2, zm2, h⟩ := jbd_some h
  refine J.cVi Y_L_isTakenBack (As := [.int v1]) (rest := []) hG d_C_hangs_5 mi_L_isTakenBack mv_L_isTakenBack lk_C_320 ⟨rfl, rfl, Nat.le_of_ble_eq_true rfl⟩ cq_29 cc_4 (c_L_isTakenBack hG zm2) rfl (Nat.le_trans jcN (Nat.le_of_ble_eq_true rfl)) ?_
  refine J.if_eq 20 d_C_hangs_8 rfl (fun c => ?_) (fun c => ?_)
  · rw [if_pos c] at h
    refine J.iconst (v := (-1 : Int32)) d_C_hangs_20 ki_m1 ?_
    cases h
    exact J.iret d_C_hangs_21 rfl (vp_nar_int _) rfl
  · rw [if_neg c] at h
    refine J.iload_n 2 d_C_hangs_11 rfl rfl ?_
    refine J.if_lt 20 d_C_hangs_12 rfl (fun c => ?_) (fun c => ?_)
    · rw [if_pos c] at h
      refine J.iconst (v := (-1 : Int32)) d_C_hangs_20 ki_m1 ?_
      cases h
      exact J.iret d_C_hangs_21 rfl (vp_nar_int _) rfl
    · rw [if_neg c] at h
      refine J.iload_n 2 d_C_hangs_15 rfl rfl ?_
      refine J.nop (pc' := 16) rfl ?_
      refine J.iconst (v := (1 : Int32)) d_C_hangs_16 ki_1 ?_
      refine J.icmp_le 22 d_C_hangs_17 rfl (fun c => ?_) (fun c => ?_)
      · rw [if_pos c] at h
        refine J.aload_n 0 d_C_hangs_22 rfl rfl ?_
        refine J.getF (n := 29) hG d_C_hangs_23 fl_C_38 ck_1_7 rfl ?_
        refine J.iload_n 1 d_C_hangs_26 rfl rfl ?_
        refine J.iload_n 2 d_C_hangs_27 rfl rfl ?_
        refine J.if_ne 35 d_C_hangs_28 rfl (fun c => ?_) (fun c => ?_)
        · rw [if_neg c] at h
          refine J.iconst (v := (0 : Int32)) d_C_hangs_35 ki_0 ?_
          obtain ⟨x3, m4, zm4, h⟩ := jbd_some h
          refine J.cVi Y_L_hanging (As := [.int v1, .int (0 : Int32)]) (rest := []) hG d_C_hangs_36 mi_L_hanging mv_L_hanging lk_C_323 ⟨rfl, rfl, Nat.le_of_ble_eq_true rfl⟩ cq_29 cc_4 (c_L_hanging hG zm4) rfl (Nat.le_trans jcN (Nat.le_of_ble_eq_true rfl)) ?_
          cases h
          exact J.iret d_C_hangs_39 rfl (vp_nar_int _) rfl
        · rw [if_pos c] at h
          refine J.iconst (v := (1 : Int32)) d_C_hangs_31 ki_1 ?_
          refine J.goto 36 d_C_hangs_32 rfl ?_
          obtain ⟨x5, m6, zm6, h⟩ := jbd_some h
          refine J.cVi Y_L_hanging (As := [.int v1, .int (1 : Int32)]) (rest := []) hG d_C_hangs_36 mi_L_hanging mv_L_hanging lk_C_323 ⟨rfl, rfl, Nat.le_of_ble_eq_true rfl⟩ cq_29 cc_4 (c_L_hanging hG zm6) rfl (Nat.le_trans jcN (Nat.le_of_ble_eq_true rfl)) ?_
          cases h
          exact J.iret d_C_hangs_39 rfl (vp_nar_int _) rfl
      · rw [if_neg c] at h
        refine J.iconst (v := (-1 : Int32)) d_C_hangs_20 ki_m1 ?_
        cases h
        exact J.iret d_C_hangs_21 rfl (vp_nar_int _) rfl

def f_C_count (v1 : Int32) (m : jMem) : Option (Int32 × jMem) :=
  if v1 = (0 : Int32) then
    some ((m 1 6), m)
  else
    if v1 = (1 : Int32) then
      some ((m 29 15), m)
    else
      if v1 = (2 : Int32) then
        some ((m 45 10), m)
      else
        if v1 = (3 : Int32) then
          jbd (f_P_howManyUnderWay m) fun x9 m10 =>
          some (x9, m10)
        else
          if v1 = (4 : Int32) then
            jbd (f_D_allHeld m) fun x7 m8 =>
            some (x7, m8)
          else
            if v1 = (5 : Int32) then
              jbd (f_D_allRead m) fun x5 m6 =>
              some (x5, m6)
            else
              if v1 = (6 : Int32) then
                jbd (f_JI_bitCount (m 29 16) m) fun x3 m4 =>
                some (x3, m4)
              else
                if v1 = (7 : Int32) then
                  jgd (jhok (m 1 2).toNatClampNeg) (
                    some ((m (m 1 2).toNatClampNeg 7), m))
                else
                  if v1 = (8 : Int32) then
                    jgd (jhok (m 1 2).toNatClampNeg) (
                      some ((m (m 1 2).toNatClampNeg 11), m))
                  else
                    if v1 = (9 : Int32) then
                      some ((m 89 3), m)
                    else
                      some ((-1 : Int32), m)
theorem c_C_count {G : jG} (hG : jFul G) {v1 : Int32} {m : jMem} {r : (Int32 × jMem)} (h : f_C_count v1 m = some r) : jCt G Y_C_count [jr G 1, .int v1] m (jri r) := by
  refine jCt.ov (ls := [(0, jr G 1), (1, .int v1)]) mi_C_count (jAvR (jAvI jAvN)) (Nat.le_of_ble_eq_true rfl) ?_ ⟨rfl, rfl⟩
  unfold f_C_count at h
  refine J.iload_n 1 d_C_count_0 rfl rfl ?_
  by_cases c0 : v1 = (0 : Int32)
  · rw [if_pos c0] at h
    refine J.tsIn 56 d_C_count_1 c0 (by decide) (by decide) rfl (by decide) ?_
    refine J.aload_n 0 d_C_count_56 rfl rfl ?_
    refine J.getI hG d_C_count_57 fl_C_139 ck_1_6 ?_
    cases h
    exact J.iret d_C_count_60 rfl (vp_nar_int _) rfl
  · rw [if_neg c0] at h
    by_cases c1 : v1 = (1 : Int32)
    · rw [if_pos c1] at h
      refine J.tsIn 61 d_C_count_1 c1 (by decide) (by decide) rfl (by decide) ?_
      refine J.aload_n 0 d_C_count_61 rfl rfl ?_
      refine J.getF (n := 29) hG d_C_count_62 fl_C_38 ck_1_7 rfl ?_
      refine J.getI hG d_C_count_65 fl_C_259 ck_29_15 ?_
      cases h
      exact J.iret d_C_count_68 rfl (vp_nar_int _) rfl
    · rw [if_neg c1] at h
      by_cases c2 : v1 = (2 : Int32)
      · rw [if_pos c2] at h
        refine J.tsIn 69 d_C_count_1 c2 (by decide) (by decide) rfl (by decide) ?_
        refine J.aload_n 0 d_C_count_69 rfl rfl ?_
        refine J.getF (n := 45) hG d_C_count_70 fl_C_45 ck_1_8 rfl ?_
        refine J.getI hG d_C_count_73 fl_C_327 ck_45_10 ?_
        cases h
        exact J.iret d_C_count_76 rfl (vp_nar_int _) rfl
      · rw [if_neg c2] at h
        by_cases c3 : v1 = (3 : Int32)
        · rw [if_pos c3] at h
          refine J.tsIn 77 d_C_count_1 c3 (by decide) (by decide) rfl (by decide) ?_
          refine J.aload_n 0 d_C_count_77 rfl rfl ?_
          refine J.getF (n := 45) hG d_C_count_78 fl_C_45 ck_1_8 rfl ?_
          obtain ⟨x9, m10, zm10, h⟩ := jbd_some h
          refine J.cVi Y_P_howManyUnderWay (As := []) (rest := []) hG d_C_count_81 mi_P_howManyUnderWay mv_P_howManyUnderWay lk_C_328 ⟨rfl, rfl, Nat.le_of_ble_eq_true rfl⟩ cq_45 cc_5 (c_P_howManyUnderWay hG zm10) rfl (Nat.le_trans jcN (Nat.le_of_ble_eq_true rfl)) ?_
          cases h
          exact J.iret d_C_count_84 rfl (vp_nar_int _) rfl
        · rw [if_neg c3] at h
          by_cases c4 : v1 = (4 : Int32)
          · rw [if_pos c4] at h
            refine J.tsIn 85 d_C_count_1 c4 (by decide) (by decide) rfl (by decide) ?_
            refine J.aload_n 0 d_C_count_85 rfl rfl ?_
            refine J.getF (n := 65) hG d_C_count_86 fl_C_52 ck_1_9 rfl ?_
            obtain ⟨x7, m8, zm8, h⟩ := jbd_some h
            refine J.cVi Y_D_allHeld (As := []) (rest := []) hG d_C_count_89 mi_D_allHeld mv_D_allHeld lk_C_331 ⟨rfl, rfl, Nat.le_of_ble_eq_true rfl⟩ cq_65 cc_6 (c_D_allHeld hG zm8) rfl (Nat.le_trans jcN (Nat.le_of_ble_eq_true rfl)) ?_
            cases h
            exact J.iret d_C_count_92 rfl (vp_nar_int _) rfl
          · rw [if_neg c4] at h
            by_cases c5 : v1 = (5 : Int32)
            · rw [if_pos c5] at h
              refine J.tsIn 93 d_C_count_1 c5 (by decide) (by decide) rfl (by decide) ?_
              refine J.aload_n 0 d_C_count_93 rfl rfl ?_
              refine J.getF (n := 65) hG d_C_count_94 fl_C_52 ck_1_9 rfl ?_
              obtain ⟨x5, m6, zm6, h⟩ := jbd_some h
              refine J.cVi Y_D_allRead (As := []) (rest := []) hG d_C_count_97 mi_D_allRead mv_D_allRead lk_C_334 ⟨rfl, rfl, Nat.le_of_ble_eq_true rfl⟩ cq_65 cc_6 (c_D_allRead hG zm6) rfl (Nat.le_trans jcN (Nat.le_of_ble_eq_true rfl)) ?_
              cases h
              exact J.iret d_C_count_100 rfl (vp_nar_int _) rfl
            · rw [if_neg c5] at h
              by_cases c6 : v1 = (6 : Int32)
              · rw [if_pos c6] at h
                refine J.tsIn 101 d_C_count_1 c6 (by decide) (by decide) rfl (by decide) ?_
                refine J.aload_n 0 d_C_count_101 rfl rfl ?_
                refine J.getF (n := 29) hG d_C_count_102 fl_C_38 ck_1_7 rfl ?_
                refine J.getI hG d_C_count_105 fl_C_279 ck_29_16 ?_
                obtain ⟨x3, m4, zm4, h⟩ := jbd_some h
                refine J.cSi Y_JI_bitCount (As := [.int (m 29 16)]) (rest := []) d_C_count_108 mi_JI_bitCount ms_JI_bitCount lk_C_282 ⟨rfl, rfl, Nat.le_of_ble_eq_true rfl⟩ (c_JI_bitCount hG zm4) rfl (Nat.le_trans jcN (Nat.le_of_ble_eq_true rfl)) ?_
                cases h
                exact J.iret d_C_count_111 rfl (vp_nar_int _) rfl
              · rw [if_neg c6] at h
                by_cases c7 : v1 = (7 : Int32)
                · rw [if_pos c7] at h
                  refine J.tsIn 112 d_C_count_1 c7 (by decide) (by decide) rfl (by decide) ?_
                  refine J.aload_n 0 d_C_count_112 rfl rfl ?_
                  refine J.getM hG d_C_count_113 fl_C_16 ck_1_2 ?_
                  obtain ⟨g2, h⟩ := jgd_some h
                  refine J.getI hG d_C_count_116 fl_C_337 (jhok_I g2 7 rfl) ?_
                  cases h
                  exact J.iret d_C_count_119 rfl (vp_nar_int _) rfl
                · rw [if_neg c7] at h
                  by_cases c8 : v1 = (8 : Int32)
                  · rw [if_pos c8] at h
                    refine J.tsIn 120 d_C_count_1 c8 (by decide) (by decide) rfl (by decide) ?_
                    refine J.aload_n 0 d_C_count_120 rfl rfl ?_
                    refine J.getM hG d_C_count_121 fl_C_16 ck_1_2 ?_
                    obtain ⟨g1, h⟩ := jgd_some h
                    refine J.getI hG d_C_count_124 fl_C_339 (jhok_I g1 11 rfl) ?_
                    cases h
                    exact J.iret d_C_count_127 rfl (vp_nar_int _) rfl
                  · rw [if_neg c8] at h
                    by_cases c9 : v1 = (9 : Int32)
                    · rw [if_pos c9] at h
                      refine J.tsIn 128 d_C_count_1 c9 (by decide) (by decide) rfl (by decide) ?_
                      refine J.aload_n 0 d_C_count_128 rfl rfl ?_
                      refine J.getF (n := 89) hG d_C_count_129 fl_C_77 ck_1_12 rfl ?_
                      refine J.getI hG d_C_count_132 fl_C_296 ck_89_3 ?_
                      cases h
                      exact J.iret d_C_count_135 rfl (vp_nar_int _) rfl
                    · rw [if_neg c9] at h
                      refine J.tsOut 136 d_C_count_1 (jts0 (n := 10) (by decide) (fun k hk => match k, hk with | 0, _ => c0 | 1, _ => c1 | 2, _ => c2 | 3, _ => c3 | 4, _ => c4 | 5, _ => c5 | 6, _ => c6 | 7, _ => c7 | 8, _ => c8 | 9, _ => c9 | k + 10, hk => absurd hk (by omega))) rfl ?_
                      refine J.iconst (v := (-1 : Int32)) d_C_count_136 ki_m1 ?_
                      cases h
                      exact J.iret d_C_count_137 rfl (vp_nar_int _) rfl
