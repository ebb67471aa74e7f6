set_option maxRecDepth 20000 in
theorem jacp_P : jAcp "CitingLetters$Post" 43 := ⟨jt_3 183 rfl rfl, jt_3 185 rfl rfl, jt_3 184 rfl rfl, jt_1 19 rfl rfl⟩
def lp_P_shortenBy_10 (v1 : Int32) (v2 : Int32) (k58 : jMem → Option (Unit × jMem)) : Nat → Int32 → jMem → Option (Unit × jMem)
  | 0, _, _ => none
  | n + 1, v3, m =>
    if (6 : Int32) ≤ v3 then
      k58 m
    else
      jl3 53 v2 fun q1 =>
      jl3 53 v2 fun q2 =>
      jld 1 m q2 v3 fun x3 =>
      jl3 53 v2 fun q4 =>
      jld 1 m q4 v1 fun x5 =>
      jl3 53 v1 fun q6 =>
      jld 1 m q6 v3 fun x7 =>
      jst 1 m q1 v3 (jmin x3 (x5 + x7)) fun m8 =>
      lp_P_shortenBy_10 v1 v2 k58 n (v3 + (1 : Int32)) m8
def lp_P_shortenBy_2 (v1 : Int32) (k64 : jMem → Option (Unit × jMem)) : Nat → Int32 → jMem → Option (Unit × jMem)
  | 0, _, _ => none
  | n + 1, v2, m =>
    if (6 : Int32) ≤ v2 then
      k64 m
    else
      lp_P_shortenBy_10 v1 v2 (fun m9 =>
        lp_P_shortenBy_2 v1 k64 n (v2 + (1 : Int32)) m9) 5000 (0 : Int32) m
def f_P_shortenBy (v1 : Int32) (m : jMem) : Option (Unit × jMem) :=
  lp_P_shortenBy_2 v1 (fun m10 =>
    some ((), m10)) 5000 (0 : Int32) m
theorem jlp_P_shortenBy_10 {G : jG} (hG : jFul G) (v1 : Int32) (v2 : Int32) (k58 : jMem → Option (Unit × jMem))
    (hk58 : ∀ (m : jMem) (r : (Unit × jMem)), k58 m = some r → J G Y_P_shortenBy 58 [(0, jr G 45), (1, .int v1), (2, .int v2)] [] m (jrv r)) : ∀ (n : Nat) (v3 : Int32) (m : jMem) (r : (Unit × jMem)), lp_P_shortenBy_10 v1 v2 k58 n v3 m = some r → J G Y_P_shortenBy 10 [(0, jr G 45), (1, .int v1), (2, .int v2), (3, .int v3)] [] m (jrv r) := by
  intro n
  induction n with
  | zero => intro v3 m r h; unfold lp_P_shortenBy_10 at h; cases h
  | succ n ih =>
    intro v3 m r h
    unfold lp_P_shortenBy_10 at h
    refine J.iload_n 3 d_P_shortenBy_10 rfl rfl ?_
    refine J.bipush (v := (6 : Int32)) d_P_shortenBy_11 kb_6 ?_
    refine J.icmp_ge 58 d_P_shortenBy_13 rfl (fun c => ?_) (fun c => ?_)
    · rw [if_pos c] at h
      exact J.sub (ls' := [(0, jr G 45), (1, .int v1), (2, .int v2)]) [0, 1, 2] rfl (hk58  m _ h)
    · rw [if_neg c] at h
      refine J.aload_n 0 d_P_shortenBy_16 rfl rfl ?_
      refine J.getF (n := 53) hG d_P_shortenBy_17 fl_P_16 ck_45_1 rfl ?_
      refine J.iload_n 2 d_P_shortenBy_20 rfl rfl ?_
      obtain ⟨q1, eq1, gq1, h⟩ := jl3_some h
      refine J.a3 hG d_P_shortenBy_21 gq1 eq1 ?_
      refine J.iload_n 3 d_P_shortenBy_22 rfl rfl ?_
      refine J.nop (pc' := 23) rfl ?_
      refine J.aload_n 0 d_P_shortenBy_23 rfl rfl ?_
      refine J.getF (n := 53) hG d_P_shortenBy_24 fl_P_16 ck_45_1 rfl ?_
      refine J.iload_n 2 d_P_shortenBy_27 rfl rfl ?_
      obtain ⟨q2, eq2, gq2, h⟩ := jl3_some h
      refine J.a3 hG d_P_shortenBy_28 gq2 eq2 ?_
      refine J.iload_n 3 d_P_shortenBy_29 rfl rfl ?_
      obtain ⟨x3, ex3, g, h⟩ := jld_some h
      refine J.il hG d_P_shortenBy_30 g ex3 ?_
      refine J.aload_n 0 d_P_shortenBy_31 rfl rfl ?_
      refine J.getF (n := 53) hG d_P_shortenBy_32 fl_P_16 ck_45_1 rfl ?_
      refine J.nop (pc' := 35) rfl ?_
      refine J.iload_n 2 d_P_shortenBy_35 rfl rfl ?_
      obtain ⟨q4, eq4, gq4, h⟩ := jl3_some h
      refine J.a3 hG d_P_shortenBy_36 gq4 eq4 ?_
      refine J.iload_n 1 d_P_shortenBy_37 rfl rfl ?_
      obtain ⟨x5, ex5, g, h⟩ := jld_some h
      refine J.il hG d_P_shortenBy_38 g ex5 ?_
      refine J.aload_n 0 d_P_shortenBy_39 rfl rfl ?_
      refine J.getF (n := 53) hG d_P_shortenBy_40 fl_P_16 ck_45_1 rfl ?_
      refine J.iload_n 1 d_P_shortenBy_43 rfl rfl ?_
      obtain ⟨q6, eq6, gq6, h⟩ := jl3_some h
      refine J.a3 hG d_P_shortenBy_44 gq6 eq6 ?_
      refine J.nop (pc' := 45) rfl ?_
      refine J.iload_n 3 d_P_shortenBy_45 rfl rfl ?_
      obtain ⟨x7, ex7, g, h⟩ := jld_some h
      refine J.il hG d_P_shortenBy_46 g ex7 ?_
      refine J.iadd d_P_shortenBy_47 ?_
      refine J.mn d_P_shortenBy_48 (jt_3 190 rfl rfl) (jt_2 223 rfl rfl) (jt_1 14 rfl rfl) (jt_2 224 rfl rfl) (Nat.le_trans (jcI (jcR jcN)) (Nat.le_of_ble_eq_true rfl)) ?_
      obtain ⟨m8, hm8, g, h⟩ := jst_some h
      refine J.is hG d_P_shortenBy_51 g hm8 ?_
      refine J.iinc 3 (v := (1 : Int32)) (lv := [(3, .int (v3 + (1 : Int32))), (0, jr G 45), (1, .int v1), (2, .int v2)]) d_P_shortenBy_52 rfl ki_1 (by decide) rfl ?_
      refine J.goto 10 d_P_shortenBy_55 rfl ?_
      exact J.sub (ls' := [(0, jr G 45), (1, .int v1), (2, .int v2), (3, .int (v3 + (1 : Int32)))]) [1, 2, 3, 0] rfl (ih (v3 + (1 : Int32)) m8 _ h)
theorem jlp_P_shortenBy_2 {G : jG} (hG : jFul G) (v1 : Int32) (k64 : jMem → Option (Unit × jMem))
    (hk64 : ∀ (m : jMem) (r : (Unit × jMem)), k64 m = some r → J G Y_P_shortenBy 64 [] [] m (jrv r)) : ∀ (n : Nat) (v2 : Int32) (m : jMem) (r : (Unit × jMem)), lp_P_shortenBy_2 v1 k64 n v2 m = some r → J G Y_P_shortenBy 2 [(0, jr G 45), (1, .int v1), (2, .int v2)] [] m (jrv r) := by
  intro n
  induction n with
  | zero => intro v2 m r h; unfold lp_P_shortenBy_2 at h; cases h
  | succ n ih =>
    intro v2 m r h
    unfold lp_P_shortenBy_2 at h
    refine J.iload_n 2 d_P_shortenBy_2 rfl rfl ?_
    refine J.bipush (v := (6 : Int32)) d_P_shortenBy_3 kb_6 ?_
    refine J.icmp_ge 64 d_P_shortenBy_5 rfl (fun c => ?_) (fun c => ?_)
    · rw [if_pos c] at h
      exact J.sub (ls' := []) [] rfl (hk64  m _ h)
    · rw [if_neg c] at h
      refine J.iconst (v := (0 : Int32)) d_P_shortenBy_8 ki_0 ?_
      refine J.istore_n (lv := [(3, .int (0 : Int32)), (0, jr G 45), (1, .int v1), (2, .int v2)]) d_P_shortenBy_9 rfl (by decide) rfl ?_
      refine J.sub (ls' := [(0, jr G 45), (1, .int v1), (2, .int v2), (3, .int (0 : Int32))]) [1, 2, 3, 0] rfl ?_
      refine jlp_P_shortenBy_10 hG v1 v2 _ ?_ _ (0 : Int32) m _ h
      intro m9 r h
      refine J.iinc 2 (v := (1 : Int32)) (lv := [(2, .int (v2 + (1 : Int32))), (0, jr G 45), (1, .int v1)]) d_P_shortenBy_58 rfl ki_1 (by decide) rfl ?_
      refine J.goto 2 d_P_shortenBy_61 rfl ?_
      exact J.sub (ls' := [(0, jr G 45), (1, .int v1), (2, .int (v2 + (1 : Int32)))]) [1, 2, 0] rfl (ih (v2 + (1 : Int32)) m9 _ h)
theorem c_P_shortenBy {G : jG} (hG : jFul G) {v1 : Int32} {m : jMem} {r : (Unit × jMem)} (h : f_P_shortenBy v1 m = some r) : jCt G Y_P_shortenBy [jr G 45, .int v1] m (jrv r) := by
  refine jCt.ov (ls := [(0, jr G 45), (1, .int v1)]) mi_P_shortenBy (jAvR (jAvI jAvN)) (Nat.le_of_ble_eq_true rfl) ?_ ⟨rfl, rfl⟩
  unfold f_P_shortenBy at h
  refine J.iconst (v := (0 : Int32)) d_P_shortenBy_0 ki_0 ?_
  refine J.istore_n (lv := [(2, .int (0 : Int32)), (0, jr G 45), (1, .int v1)]) d_P_shortenBy_1 rfl (by decide) rfl ?_
  refine J.sub (ls' := [(0, jr G 45), (1, .int v1), (2, .int (0 : Int32))]) [1, 2, 0] rfl ?_
  refine jlp_P_shortenBy_2 hG v1 _ ?_ _ (0 : Int32) m _ h
  intro m10 r h
  cases h
  exact J.vret d_P_shortenBy_64 rfl rfl

def lp_P_setWay_21 (k55 : jMem → Option (Unit × jMem)) : Nat → Int32 → jMem → Option (Unit × jMem)
  | 0, _, _ => none
  | n + 1, v4, m =>
    if (6 : Int32) ≤ v4 then
      k55 m
    else
      jl3 46 v4 fun q5 =>
      jl3 53 v4 fun q6 =>
      jcp m q5 (0 : Int32) q6 (0 : Int32) (6 : Int32) fun m7 =>
      lp_P_setWay_21 k55 n (v4 + (1 : Int32)) m7
def lp_P_setWay_58 (k77 : jMem → Option (Unit × jMem)) : Nat → Int32 → jMem → Option (Unit × jMem)
  | 0, _, _ => none
  | n + 1, v4, m =>
    if (6 : Int32) ≤ v4 then
      k77 m
    else
      jbd (f_P_shortenBy v4 m) fun u9 m10 =>
      lp_P_setWay_58 k77 n (v4 + (1 : Int32)) m10
def f_P_setWay (v1 : Int32) (v2 : Int32) (v3 : Int32) (m : jMem) : Option (Unit × jMem) :=
  jl3 46 v1 fun q1 =>
  jst 1 m q1 v2 v3 fun m2 =>
  jl3 46 v2 fun q3 =>
  jst 1 m2 q3 v1 v3 fun m4 =>
  lp_P_setWay_21 (fun m8 =>
    lp_P_setWay_58 (fun m11 =>
      some ((), m11)) 5000 (0 : Int32) m8) 5000 (0 : Int32) m4
theorem jlp_P_setWay_21 {G : jG} (hG : jFul G) (k55 : jMem → Option (Unit × jMem))
    (hk55 : ∀ (m : jMem) (r : (Unit × jMem)), k55 m = some r → J G Y_P_setWay 55 [(0, jr G 45)] [] m (jrv r)) : ∀ (n : Nat) (v4 : Int32) (m : jMem) (r : (Unit × jMem)), lp_P_setWay_21 k55 n v4 m = some r → J G Y_P_setWay 21 [(0, jr G 45), (4, .int v4)] [] m (jrv r) := by
  intro n
  induction n with
  | zero => intro v4 m r h; unfold lp_P_setWay_21 at h; cases h
  | succ n ih =>
    intro v4 m r h
    unfold lp_P_setWay_21 at h
    refine J.iload 1 d_P_setWay_21 rfl ?_
    refine J.bipush (v := (6 : Int32)) d_P_setWay_23 kb_6 ?_
    refine J.icmp_ge 55 d_P_setWay_25 rfl (fun c => ?_) (fun c => ?_)
    · rw [if_pos c] at h
      exact J.sub (ls' := [(0, jr G 45)]) [0] rfl (hk55  m _ h)
    · rw [if_neg c] at h
      refine J.aload_n 0 d_P_setWay_28 rfl rfl ?_
      refine J.getF (n := 46) hG d_P_setWay_29 fl_P_11 ck_45_0 rfl ?_
      refine J.iload 1 d_P_setWay_32 rfl ?_
      obtain ⟨q5, eq5, gq5, h⟩ := jl3_some h
      refine J.a3 hG d_P_setWay_34 gq5 eq5 ?_
      refine J.iconst (v := (0 : Int32)) d_P_setWay_35 ki_0 ?_
      refine J.nop (pc' := 36) rfl ?_
      refine J.aload_n 0 d_P_setWay_36 rfl rfl ?_
      refine J.getF (n := 53) hG d_P_setWay_37 fl_P_16 ck_45_1 rfl ?_
      refine J.iload 1 d_P_setWay_40 rfl ?_
      obtain ⟨q6, eq6, gq6, h⟩ := jl3_some h
      refine J.a3 hG d_P_setWay_42 gq6 eq6 ?_
      refine J.iconst (v := (0 : Int32)) d_P_setWay_43 ki_0 ?_
      refine J.bipush (v := (6 : Int32)) d_P_setWay_44 kb_6 ?_
      obtain ⟨m7, hm7, g, h⟩ := jcp_some h
      refine J.acp hG d_P_setWay_46 jacp_P g hm7 (Nat.le_trans jcN (Nat.le_of_ble_eq_true rfl)) ?_
      refine J.iinc 1 (v := (1 : Int32)) (lv := [(4, .int (v4 + (1 : Int32))), (0, jr G 45)]) d_P_setWay_49 rfl ki_1 (by decide) rfl ?_
      refine J.nop (pc' := 52) rfl ?_
      refine J.goto 21 d_P_setWay_52 rfl ?_
      exact J.sub (ls' := [(0, jr G 45), (4, .int (v4 + (1 : Int32)))]) [1, 0] rfl (ih (v4 + (1 : Int32)) m7 _ h)
theorem jlp_P_setWay_58 {G : jG} (hG : jFul G) (k77 : jMem → Option (Unit × jMem))
    (hk77 : ∀ (m : jMem) (r : (Unit × jMem)), k77 m = some r → J G Y_P_setWay 77 [] [] m (jrv r)) : ∀ (n : Nat) (v4 : Int32) (m : jMem) (r : (Unit × jMem)), lp_P_setWay_58 k77 n v4 m = some r → J G Y_P_setWay 58 [(0, jr G 45), (4, .int v4)] [] m (jrv r) := by
  intro n
  induction n with
  | zero => intro v4 m r h; unfold lp_P_setWay_58 at h; cases h
  | succ n ih =>
    intro v4 m r h
    unfold lp_P_setWay_58 at h
    refine J.iload 1 d_P_setWay_58 rfl ?_
    refine J.bipush (v := (6 : Int32)) d_P_setWay_60 kb_6 ?_
    refine J.icmp_ge 77 d_P_setWay_62 rfl (fun c => ?_) (fun c => ?_)
    · rw [if_pos c] at h
      exact J.sub (ls' := []) [] rfl (hk77  m _ h)
    · rw [if_neg c] at h
      refine J.aload_n 0 d_P_setWay_65 rfl rfl ?_
      refine J.iload 1 d_P_setWay_66 rfl ?_
      obtain ⟨u9, m10, zm10, h⟩ := jbd_some h
      refine J.cVv Y_P_shortenBy (As := [.int v4]) (rest := []) hG d_P_setWay_68 mi_P_shortenBy mv_P_shortenBy lk_P_49 ⟨rfl, rfl, Nat.le_of_ble_eq_true rfl⟩ cq_45 cc_5 (c_P_shortenBy hG zm10) rfl (Nat.le_trans jcN (Nat.le_of_ble_eq_true rfl)) ?_
      refine J.iinc 1 (v := (1 : Int32)) (lv := [(4, .int (v4 + (1 : Int32))), (0, jr G 45)]) d_P_setWay_71 rfl ki_1 (by decide) rfl ?_
      refine J.goto 58 d_P_setWay_74 rfl ?_
      exact J.sub (ls' := [(0, jr G 45), (4, .int (v4 + (1 : Int32)))]) [1, 0] rfl (ih (v4 + (1 : Int32)) m10 _ h)
theorem c_P_setWay {G : jG} (hG : jFul G) {v1 : Int32} {v2 : Int32} {v3 : Int32} {m : jMem} {r : (Unit × jMem)} (h : f_P_setWay v1 v2 v3 m = some r) : jCt G Y_P_setWay [jr G 45, .int v1, .int v2, .int v3] m (jrv r) := by
  refine jCt.ov (ls := [(0, jr G 45), (1, .int v1), (2, .int v2), (3, .int v3)]) mi_P_setWay (jAvR (jAvI (jAvI (jAvI jAvN)))) (Nat.le_of_ble_eq_true rfl) ?_ ⟨rfl, rfl⟩
  unfold f_P_setWay at h
  refine J.aload_n 0 d_P_setWay_0 rfl rfl ?_
  refine J.getF (n := 46) hG d_P_setWay_1 fl_P_11 ck_45_0 rfl ?_
  refine J.iload_n 1 d_P_setWay_4 rfl rfl ?_
  obtain ⟨q1, eq1, gq1, h⟩ := jl3_some h
  refine J.a3 hG d_P_setWay_5 gq1 eq1 ?_
  refine J.iload_n 2 d_P_setWay_6 rfl rfl ?_
  refine J.iload_n 3 d_P_setWay_7 rfl rfl ?_
  obtain ⟨m2, hm2, g, h⟩ := jst_some h
  refine J.is hG d_P_setWay_8 g hm2 ?_
  refine J.aload_n 0 d_P_setWay_9 rfl rfl ?_
  refine J.nop (pc' := 10) rfl ?_
  refine J.getF (n := 46) hG d_P_setWay_10 fl_P_11 ck_45_0 rfl ?_
  refine J.iload_n 2 d_P_setWay_13 rfl rfl ?_
  obtain ⟨q3, eq3, gq3, h⟩ := jl3_some h
  refine J.a3 hG d_P_setWay_14 gq3 eq3 ?_
  refine J.iload_n 1 d_P_setWay_15 rfl rfl ?_
  refine J.iload_n 3 d_P_setWay_16 rfl rfl ?_
  obtain ⟨m4, hm4, g, h⟩ := jst_some h
  refine J.is hG d_P_setWay_17 g hm4 ?_
  refine J.iconst (v := (0 : Int32)) d_P_setWay_18 ki_0 ?_
  refine J.istore (lv := [(4, .int (0 : Int32)), (0, jr G 45), (1, .int v1), (2, .int v2), (3, .int v3)]) d_P_setWay_19 (by decide) rfl ?_
  refine J.sub (ls' := [(0, jr G 45), (4, .int (0 : Int32))]) [1, 0] rfl ?_
  refine jlp_P_setWay_21 hG _ ?_ _ (0 : Int32) m4 _ h
  intro m8 r h
  refine J.iconst (v := (0 : Int32)) d_P_setWay_55 ki_0 ?_
  refine J.istore (lv := [(4, .int (0 : Int32)), (0, jr G 45)]) d_P_setWay_56 (by decide) rfl ?_
  refine J.sub (ls' := [(0, jr G 45), (4, .int (0 : Int32))]) [1, 0] rfl ?_
  refine jlp_P_setWay_58 hG _ ?_ _ (0 : Int32) m8 _ h
  intro m11 r h
  cases h
  exact J.vret d_P_setWay_77 rfl rfl

def f_P_throughSplit (v1 : Int32) (v2 : Int32) (v3 : Int32) (m : jMem) : Option (Int32 × jMem) :=
  jbd (f_C_isIn (m 45 2) v1 m) fun x1 m2 =>
  jbd (f_C_isIn (m2 45 2) v2 m2) fun x3 m4 =>
  if x1 = x3 then
    if (0 : Int32) = 0 then
      some (v3, m4)
    else
      if v3 < (m4 45 3) then
        some (v3, m4)
      else
        if (m4 45 4) < v3 then
          some (v3, m4)
        else
          some (((m4 45 4) + (1 : Int32)), m4)
  else
    if (1 : Int32) = 0 then
      some (v3, m4)
    else
      if v3 < (m4 45 3) then
        some (v3, m4)
      else
        if (m4 45 4) < v3 then
          some (v3, m4)
        else
          some (((m4 45 4) + (1 : Int32)), m4)
theorem c_P_throughSplit {G : jG} (hG : jFul G) {v1 : Int32} {v2 : Int32} {v3 : Int32} {m : jMem} {r : (Int32 × jMem)} (h : f_P_throughSplit v1 v2 v3 m = some r) : jCt G Y_P_throughSplit [jr G 45, .int v1, .int v2, .int v3] m (jri r) := by
  refine jCt.ov (ls := [(0, jr G 45), (1, .int v1), (2, .int v2), (3, .int v3)]) mi_P_throughSplit (jAvR (jAvI (jAvI (jAvI jAvN)))) (Nat.le_of_ble_eq_true rfl) ?_ ⟨rfl, rfl⟩
  unfold f_P_throughSplit at h
  refine J.aload_n 0 d_P_throughSplit_0 rfl rfl ?_
  refine J.getI hG d_P_throughSplit_1 fl_P_59 ck_45_2 ?_
  refine J.iload_n 1 d_P_throughSplit_4 rfl rfl ?_
  obtain ⟨x1, m2, zm2, h⟩ := jbd_some h
  refine J.cSi Y_C_isIn (As := [.int (m 45 2), .int v1]) (rest := []) d_P_throughSplit_5 mi_C_isIn ms_C_isIn lk_P_75 ⟨rfl, rfl, Nat.le_of_ble_eq_true rfl⟩ (c_C_isIn hG zm2) rfl (Nat.le_trans jcN (Nat.le_of_ble_eq_true rfl)) ?_
  refine J.aload_n 0 d_P_throughSplit_8 rfl rfl ?_
  refine J.getI hG d_P_throughSplit_9 fl_P_59 ck_45_2 ?_
  refine J.iload_n 2 d_P_throughSplit_12 rfl rfl ?_
  obtain ⟨x3, m4, zm4, h⟩ := jbd_some h
  refine J.cSi Y_C_isIn (As := [.int (m2 45 2), .int v2]) (rest := [.int x1]) d_P_throughSplit_13 mi_C_isIn ms_C_isIn lk_P_75 ⟨rfl, rfl, Nat.le_of_ble_eq_true rfl⟩ (c_C_isIn hG zm4) rfl (Nat.le_trans (jcI jcN) (Nat.le_of_ble_eq_true rfl)) ?_
  refine J.nop (pc' := 16) rfl ?_
  refine J.icmp_eq 23 d_P_throughSplit_16 rfl (fun c => ?_) (fun c => ?_)
  · rw [if_pos c] at h
    refine J.iconst (v := (0 : Int32)) d_P_throughSplit_23 ki_0 ?_
    refine J.istore (lv := [(4, .int (0 : Int32)), (0, jr G 45), (1, .int v1), (2, .int v2), (3, .int v3)]) d_P_throughSplit_24 (by decide) rfl ?_
    refine J.iload 0 d_P_throughSplit_26 rfl ?_
    refine J.if_eq 56 d_P_throughSplit_28 rfl (fun c => ?_) (fun c => ?_)
    · rw [if_pos c] at h
      refine J.iload_n 4 d_P_throughSplit_56 rfl rfl ?_
      cases h
      exact J.iret d_P_throughSplit_57 rfl (vp_nar_int _) rfl
    · rw [if_neg c] at h
      refine J.iload_n 4 d_P_throughSplit_31 rfl rfl ?_
      refine J.aload_n 1 d_P_throughSplit_32 rfl rfl ?_
      refine J.getI hG d_P_throughSplit_33 fl_P_62 ck_45_3 ?_
      refine J.icmp_lt 56 d_P_throughSplit_36 rfl (fun c => ?_) (fun c => ?_)
      · rw [if_pos c] at h
        refine J.iload_n 4 d_P_throughSplit_56 rfl rfl ?_
        cases h
        exact J.iret d_P_throughSplit_57 rfl (vp_nar_int _) rfl
      · rw [if_neg c] at h
        refine J.nop (pc' := 39) rfl ?_
        refine J.iload_n 4 d_P_throughSplit_39 rfl rfl ?_
        refine J.aload_n 1 d_P_throughSplit_40 rfl rfl ?_
        refine J.getI hG d_P_throughSplit_41 fl_P_65 ck_45_4 ?_
        refine J.icmp_gt 56 d_P_throughSplit_44 rfl (fun c => ?_) (fun c => ?_)
        · rw [if_pos c] at h
          refine J.iload_n 4 d_P_throughSplit_56 rfl rfl ?_
          cases h
          exact J.iret d_P_throughSplit_57 rfl (vp_nar_int _) rfl
        · rw [if_neg c] at h
          refine J.aload_n 1 d_P_throughSplit_47 rfl rfl ?_
          refine J.getI hG d_P_throughSplit_48 fl_P_65 ck_45_4 ?_
          refine J.iconst (v := (1 : Int32)) d_P_throughSplit_51 ki_1 ?_
          refine J.iadd d_P_throughSplit_52 ?_
          refine J.nop (pc' := 53) rfl ?_
          refine J.goto 57 d_P_throughSplit_53 rfl ?_
          cases h
          exact J.iret d_P_throughSplit_57 rfl (vp_nar_int _) rfl
  · rw [if_neg c] at h
    refine J.iconst (v := (1 : Int32)) d_P_throughSplit_19 ki_1 ?_
    refine J.goto 24 d_P_throughSplit_20 rfl ?_
    refine J.istore (lv := [(4, .int (1 : Int32)), (0, jr G 45), (1, .int v1), (2, .int v2), (3, .int v3)]) d_P_throughSplit_24 (by decide) rfl ?_
    refine J.iload 0 d_P_throughSplit_26 rfl ?_
    refine J.if_eq 56 d_P_throughSplit_28 rfl (fun c => ?_) (fun c => ?_)
    · rw [if_pos c] at h
      refine J.iload_n 4 d_P_throughSplit_56 rfl rfl ?_
      cases h
      exact J.iret d_P_throughSplit_57 rfl (vp_nar_int _) rfl
    · rw [if_neg c] at h
      refine J.iload_n 4 d_P_throughSplit_31 rfl rfl ?_
      refine J.aload_n 1 d_P_throughSplit_32 rfl rfl ?_
      refine J.getI hG d_P_throughSplit_33 fl_P_62 ck_45_3 ?_
      refine J.icmp_lt 56 d_P_throughSplit_36 rfl (fun c => ?_) (fun c => ?_)
      · rw [if_pos c] at h
        refine J.iload_n 4 d_P_throughSplit_56 rfl rfl ?_
        cases h
        exact J.iret d_P_throughSplit_57 rfl (vp_nar_int _) rfl
      · rw [if_neg c] at h
        refine J.iload_n 4 d_P_throughSplit_39 rfl rfl ?_
        refine J.nop (pc' := 40) rfl ?_
        refine J.aload_n 1 d_P_throughSplit_40 rfl rfl ?_
        refine J.getI hG d_P_throughSplit_41 fl_P_65 ck_45_4 ?_
        refine J.icmp_gt 56 d_P_throughSplit_44 rfl (fun c => ?_) (fun c => ?_)
        · rw [if_pos c] at h
          refine J.iload_n 4 d_P_throughSplit_56 rfl rfl ?_
          cases h
          exact J.iret d_P_throughSplit_57 rfl (vp_nar_int _) rfl
        · rw [if_neg c] at h
          refine J.aload_n 1 d_P_throughSplit_47 rfl rfl ?_
          refine J.getI hG d_P_throughSplit_48 fl_P_65 ck_45_4 ?_
          refine J.iconst (v := (1 : Int32)) d_P_throughSplit_51 ki_1 ?_
          refine J.iadd d_P_throughSplit_52 ?_
          refine J.goto 57 d_P_throughSplit_53 rfl ?_
          cases h
          exact J.iret d_P_throughSplit_57 rfl (vp_nar_int _) rfl

def f_P_send (v1 : Int32) (v2 : Int32) (v3 : Int32) (v4 : Int32) (m : jMem) : Option (Int32 × jMem) :=
  if (150 : Int32) ≤ (m 45 10) then
    some ((-1 : Int32), m)
  else
    jbd (f_C_isWriter v2 m) fun x1 m2 =>
    if x1 = 0 then
      some ((-1 : Int32), m2)
    else
      jbd (f_C_isWriter v3 m2) fun x3 m4 =>
      if x3 = 0 then
        some ((-1 : Int32), m4)
      else
        jst 1 m4 60 (m4 45 10) v1 fun m5 =>
        jst 1 m5 61 (m4 45 10) v2 fun m6 =>
        jst 1 m6 62 (m4 45 10) v3 fun m7 =>
        jl3 46 v2 fun q8 =>
        jld 1 m7 q8 v3 fun x9 =>
        jbd (f_P_throughSplit v2 v3 (v4 + x9) m7) fun x10 m11 =>
        jst 1 m11 63 (m4 45 10) x10 fun m12 =>
        jst 1 m12 64 (m4 45 10) (0 : Int32) fun m13 =>
        jpu m13 45 10 ((m13 45 10) + (1 : Int32)) fun m14 =>
        some ((m4 45 10), m14)
theorem c_P_send {G : jG} (hG : jFul G) {v1 : Int32} {v2 : Int32} {v3 : Int32} {v4 : Int32} {m : jMem} {r : (Int32 × jMem)} (h : f_P_send v1 v2 v3 v4 m = some r) : jCt G Y_P_send [jr G 45, .int v1, .int v2, .int v3, .int v4] m (jri r) := by
  refine jCt.ov (ls := [(0, jr G 45), (1, .int v1), (2, .int v2), (3, .int v3), (4, .int v4)]) mi_P_send (jAvR (jAvI (jAvI (jAvI (jAvI jAvN))))) (Nat.le_of_ble_eq_true rfl) ?_ ⟨rfl, rfl⟩
  unfold f_P_send at h
  refine J.aload_n 0 d_P_send_0 rfl rfl ?_
  refine J.getI hG d_P_send_1 fl_P_35 ck_45_10 ?_
  refine J.sipush (v := (150 : Int32)) d_P_send_4 ks_150 ?_
  refine J.icmp_ge 24 d_P_send_7 rfl (fun c => ?_) (fun c => ?_)
  · rw [if_pos c] at h
    refine J.iconst (v := (-1 : Int32)) d_P_send_24 ki_m1 ?_
    cases h
    exact J.iret d_P_send_25 rfl (vp_nar_int _) rfl
  · rw [if_neg c] at h
    refine J.iload_n 2 d_P_send_10 rfl rfl ?_
    obtain ⟨x1, m2, zm2, h⟩ := jbd_some h
    refine J.cSi Y_C_isWriter (As := [.int v2]) (rest := []) d_P_send_11 mi_C_isWriter ms_C_isWriter lk_P_68 ⟨rfl, rfl, Nat.le_of_ble_eq_true rfl⟩ (c_C_isWriter hG zm2) rfl (Nat.le_trans jcN (Nat.le_of_ble_eq_true rfl)) ?_
    refine J.if_eq 24 d_P_send_14 rfl (fun c => ?_) (fun c => ?_)
    · rw [if_pos c] at h
      refine J.iconst (v := (-1 : Int32)) d_P_send_24 ki_m1 ?_
      cases h
      exact J.iret d_P_send_25 rfl (vp_nar_int _) rfl
    · rw [if_neg c] at h
      refine J.iload_n 3 d_P_send_17 rfl rfl ?_
      refine J.nop (pc' := 18) rfl ?_
      obtain ⟨x3, m4, zm4, h⟩ := jbd_some h
      refine J.cSi Y_C_isWriter (As := [.int v3]) (rest := []) d_P_send_18 mi_C_isWriter ms_C_isWriter lk_P_68 ⟨rfl, rfl, Nat.le_of_ble_eq_true rfl⟩ (c_C_isWriter hG zm4) rfl (Nat.le_trans jcN (Nat.le_of_ble_eq_true rfl)) ?_
      refine J.if_ne 26 d_P_send_21 rfl (fun c => ?_) (fun c => ?_)
      · rw [if_neg c] at h
        refine J.aload_n 0 d_P_send_26 rfl rfl ?_
        refine J.getI hG d_P_send_27 fl_P_35 ck_45_10 ?_
        refine J.istore (lv := [(5, .int (m4 45 10)), (0, jr G 45), (1, .int v1), (2, .int v2), (3, .int v3), (4, .int v4)]) d_P_send_30 (by decide) rfl ?_
        refine J.aload_n 1 d_P_send_32 rfl rfl ?_
        refine J.getF (n := 60) hG d_P_send_33 fl_P_19 ck_45_5 rfl ?_
        refine J.iload 0 d_P_send_36 rfl ?_
        refine J.iload_n 2 d_P_send_38 rfl rfl ?_
        obtain ⟨m5, hm5, g, h⟩ := jst_some h
        refine J.is hG d_P_send_39 g hm5 ?_
        refine J.nop (pc' := 40) rfl ?_
        refine J.aload_n 1 d_P_send_40 rfl rfl ?_
        refine J.getF (n := 61) hG d_P_send_41 fl_P_23 ck_45_6 rfl ?_
        refine J.iload 0 d_P_send_44 rfl ?_
        refine J.iload_n 3 d_P_send_46 rfl rfl ?_
        obtain ⟨m6, hm6, g, h⟩ := jst_some h
        refine J.is hG d_P_send_47 g hm6 ?_
        refine J.aload_n 1 d_P_send_48 rfl rfl ?_
        refine J.getF (n := 62) hG d_P_send_49 fl_P_26 ck_45_7 rfl ?_
        refine J.iload 0 d_P_send_52 rfl ?_
        refine J.nop (pc' := 54) rfl ?_
        refine J.iload_n 4 d_P_send_54 rfl rfl ?_
        obtain ⟨m7, hm7, g, h⟩ := jst_some h
        refine J.is hG d_P_send_55 g hm7 ?_
        refine J.aload_n 1 d_P_send_56 rfl rfl ?_
        refine J.getF (n := 63) hG d_P_send_57 fl_P_29 ck_45_8 rfl ?_
        refine J.iload 0 d_P_send_60 rfl ?_
        refine J.aload_n 1 d_P_send_62 rfl rfl ?_
        refine J.iload_n 3 d_P_send_63 rfl rfl ?_
        refine J.iload_n 4 d_P_send_64 rfl rfl ?_
        refine J.nop (pc' := 65) rfl ?_
        refine J.iload 5 d_P_send_65 rfl ?_
        refine J.aload_n 1 d_P_send_67 rfl rfl ?_
        refine J.getF (n := 46) hG d_P_send_68 fl_P_11 ck_45_0 rfl ?_
        refine J.iload_n 3 d_P_send_71 rfl rfl ?_
        obtain ⟨q8, eq8, gq8, h⟩ := jl3_some h
        refine J.a3 hG d_P_send_72 gq8 eq8 ?_
        refine J.iload_n 4 d_P_send_73 rfl rfl ?_
        obtain ⟨x9, ex9, g, h⟩ := jld_some h
        refine J.il hG d_P_send_74 g ex9 ?_
        refine J.iadd d_P_send_75 ?_
        refine J.nop (pc' := 76) rfl ?_
        obtain ⟨x10, m11, zm11, h⟩ := jbd_some h
        refine J.cVi Y_P_throughSplit (As := [.int v2, .int v3, .int (v4 + x9)]) (rest := [.int (m4 45 10), jr G 63]) hG d_P_send_76 mi_P_throughSplit mv_P_throughSplit lk_P_71 ⟨rfl, rfl, Nat.le_of_ble_eq_true rfl⟩ cq_45 cc_5 (c_P_throughSplit hG zm11) rfl (Nat.le_trans (jcI (jcR jcN)) (Nat.le_of_ble_eq_true rfl)) ?_
        obtain ⟨m12, hm12, g, h⟩ := jst_some h
        refine J.is hG d_P_send_79 g hm12 ?_
        refine J.aload_n 1 d_P_send_80 rfl rfl ?_
        refine J.getF (n := 64) hG d_P_send_81 fl_P_32 ck_45_9 rfl ?_
        refine J.iload 0 d_P_send_84 rfl ?_
        refine J.iconst (v := (0 : Int32)) d_P_send_86 ki_0 ?_
        obtain ⟨m13, hm13, g, h⟩ := jst_some h
        refine J.is hG d_P_send_87 g hm13 ?_
        refine J.aload_n 1 d_P_send_88 rfl rfl ?_
        refine J.nop (pc' := 89) rfl ?_
        refine J.dup d_P_send_89 (jr_cat _ _) ?_
        refine J.getI hG d_P_send_90 fl_P_35 ck_45_10 ?_
        refine J.iconst (v := (1 : Int32)) d_P_send_93 ki_1 ?_
        refine J.iadd d_P_send_94 ?_
        obtain ⟨m14, hm14, h⟩ := jpu_some h
        refine J.putI hG d_P_send_95 fl_P_35 fp_5_10 ck_45_10 hm14 ?_
        refine J.iload 0 d_P_send_98 rfl ?_
        cases h
        exact J.iret d_P_send_100 rfl (vp_nar_int _) rfl
      · rw [if_pos c] at h
        refine J.iconst (v := (-1 : Int32)) d_P_send_24 ki_m1 ?_
        cases h
        exact J.iret d_P_send_25 rfl (vp_nar_int _) rfl

def f_P_delay (v1 : Int32) (v2 : Int32) (m : jMem) : Option (Int32 × jMem) :=
  jld 1 m 63 v1 fun x1 =>
  if (x1 + v2) ≤ (999 : Int32) then
    jld 1 m 61 v1 fun x2 =>
    jld 1 m 62 v1 fun x3 =>
    jld 1 m 63 v1 fun x4 =>
    jbd (f_P_throughSplit x2 x3 (x4 + v2) m) fun x5 m6 =>
    jst 1 m6 63 v1 x5 fun m7 =>
    jld 1 m7 63 v1 fun x8 =>
    some (x8, m7)
  else
    some ((-1 : Int32), m)
theorem c_P_delay {G : jG} (hG : jFul G) {v1 : Int32} {v2 : Int32} {m : jMem} {r : (Int32 × jMem)} (h : f_P_delay v1 v2 m = some r) : jCt G Y_P_delay [jr G 45, .int v1, .int v2] m (jri r) := by
  refine jCt.ov (ls := [(0, jr G 45), (1, .int v1), (2, .int v2)]) mi_P_delay (jAvR (jAvI (jAvI jAvN))) (Nat.le_of_ble_eq_true rfl) ?_ ⟨rfl, rfl⟩
  unfold f_P_delay at h
  refine J.aload_n 0 d_P_delay_0 rfl rfl ?_
  refine J.getF (n := 63) hG d_P_delay_1 fl_P_29 ck_45_8 rfl ?_
  refine J.iload_n 1 d_P_delay_4 rfl rfl ?_
  obtain ⟨x1, ex1, g, h⟩ := jld_some h
  refine J.il hG d_P_delay_5 g ex1 ?_
  refine J.iload_n 2 d_P_delay_6 rfl rfl ?_
  refine J.iadd d_P_delay_7 ?_
  refine J.sipush (v := (999 : Int32)) d_P_delay_8 ks_999 ?_
  refine J.icmp_le 16 d_P_delay_11 rfl (fun c => ?_) (fun c => ?_)
  · rw [if_pos c] at h
    refine J.aload_n 0 d_P_delay_16 rfl rfl ?_
    refine J.getF (n := 63) hG d_P_delay_17 fl_P_29 ck_45_8 rfl ?_
    refine J.iload_n 1 d_P_delay_20 rfl rfl ?_
    refine J.aload_n 0 d_P_delay_21 rfl rfl ?_
    refine J.aload_n 0 d_P_delay_22 rfl rfl ?_
    refine J.getF (n := 61) hG d_P_delay_23 fl_P_23 ck_45_6 rfl ?_
    refine J.iload_n 1 d_P_delay_26 rfl rfl ?_
    obtain ⟨x2, ex2, g, h⟩ := jld_some h
    refine J.il hG d_P_delay_27 g ex2 ?_
    refine J.nop (pc' := 28) rfl ?_
    refine J.aload_n 0 d_P_delay_28 rfl rfl ?_
    refine J.getF (n := 62) hG d_P_delay_29 fl_P_26 ck_45_7 rfl ?_
    refine J.iload_n 1 d_P_delay_32 rfl rfl ?_
    obtain ⟨x3, ex3, g, h⟩ := jld_some h
    refine J.il hG d_P_delay_33 g ex3 ?_
    refine J.aload_n 0 d_P_delay_34 rfl rfl ?_
    refine J.getF (n := 63) hG d_P_delay_35 fl_P_29 ck_45_8 rfl ?_
    refine J.iload_n 1 d_P_delay_38 rfl rfl ?_
    obtain ⟨x4, ex4, g, h⟩ := jld_some h
    refine J.il hG d_P_delay_39 g ex4 ?_
    refine J.nop (pc' := 40) rfl ?_
    refine J.iload_n 2 d_P_delay_40 rfl rfl ?_
    refine J.iadd d_P_delay_41 ?_
    obtain ⟨x5, m6, zm6, h⟩ := jbd_some h
    refine J.cVi Y_P_throughSplit (As := [.int x2, .int x3, .int (x4 + v2)]) (rest := [.int v1, jr G 63]) hG d_P_delay_42 mi_P_throughSplit mv_P_throughSplit lk_P_71 ⟨rfl, rfl, Nat.le_of_ble_eq_true rfl⟩ cq_45 cc_5 (c_P_throughSplit hG zm6) rfl (Nat.le_trans (jcI (jcR jcN)) (Nat.le_of_ble_eq_true rfl)) ?_
    obtain ⟨m7, hm7, g, h⟩ := jst_some h
    refine J.is hG d_P_delay_45 g hm7 ?_
    refine J.aload_n 0 d_P_delay_46 rfl rfl ?_
    refine J.getF (n := 63) hG d_P_delay_47 fl_P_29 ck_45_8 rfl ?_
    refine J.iload_n 1 d_P_delay_50 rfl rfl ?_
    obtain ⟨x8, ex8, g, h⟩ := jld_some h
    refine J.il hG d_P_delay_51 g ex8 ?_
    refine J.nop (pc' := 52) rfl ?_
    cases h
    exact J.iret d_P_delay_52 rfl (vp_nar_int _) rfl
  · rw [if_neg c] at h
    refine J.nop (pc' := 14) rfl ?_
    refine J.iconst (v := (-1 : Int32)) d_P_delay_14 ki_m1 ?_
    cases h
    exact J.iret d_P_delay_15 rfl (vp_nar_int _) rfl

def f_P_isCopy (v1 : Int32) (m : jMem) : Option (Int32 × jMem) :=
  if v1 < 0 then
    some ((0 : Int32), m)
  else
    if (m 45 10) ≤ v1 then
      some ((0 : Int32), m)
    else
      some ((1 : Int32), m)
theorem c_P_isCopy {G : jG} (hG : jFul G) {v1 : Int32} {m : jMem} {r : (Int32 × jMem)} (h : f_P_isCopy v1 m = some r) : jCt G Y_P_isCopy [jr G 45, .int v1] m (jri r) := by
  refine jCt.ov (ls := [(0, jr G 45), (1, .int v1)]) mi_P_isCopy (jAvR (jAvI jAvN)) (Nat.le_of_ble_eq_true rfl) ?_ ⟨rfl, rfl⟩
  unfold f_P_isCopy at h
  refine J.iload_n 1 d_P_isCopy_0 rfl rfl ?_
  refine J.if_lt 16 d_P_isCopy_1 rfl (fun c => ?_) (fun c => ?_)
  · rw [if_pos c] at h
    refine J.iconst (v := (0 : Int32)) d_P_isCopy_16 ki_0 ?_
    cases h
    exact J.iret d_P_isCopy_17 rfl rfl rfl
  · rw [if_neg c] at h
    refine J.iload_n 1 d_P_isCopy_4 rfl rfl ?_
    refine J.aload_n 0 d_P_isCopy_5 rfl rfl ?_
    refine J.getI hG d_P_isCopy_6 fl_P_35 ck_45_10 ?_
    refine J.icmp_ge 16 d_P_isCopy_9 rfl (fun c => ?_) (fun c => ?_)
    · rw [if_pos c] at h
      refine J.iconst (v := (0 : Int32)) d_P_isCopy_16 ki_0 ?_
      cases h
      exact J.iret d_P_isCopy_17 rfl rfl rfl
    · rw [if_neg c] at h
      refine J.iconst (v := (1 : Int32)) d_P_isCopy_12 ki_1 ?_
      refine J.goto 17 d_P_isCopy_13 rfl ?_
      cases h
      exact J.iret d_P_isCopy_17 rfl rfl rfl

def f_P_isUnderWay (v1 : Int32) (m : jMem) : Option (Int32 × jMem) :=
  jbd (f_P_isCopy v1 m) fun x1 m2 =>
  if x1 = 0 then
    some ((0 : Int32), m2)
  else
    jld 1 m2 64 v1 fun x3 =>
    if x3 = 0 then
      some ((1 : Int32), m2)
    else
      some ((0 : Int32), m2)
theorem c_P_isUnderWay {G : jG} (hG : jFul G) {v1 : Int32} {m : jMem} {r : (Int32 × jMem)} (h : f_P_isUnderWay v1 m = some r) : jCt G Y_P_isUnderWay [jr G 45, .int v1] m (jri r) := by
  refine jCt.ov (ls := [(0, jr G 45), (1, .int v1)]) mi_P_isUnderWay (jAvR (jAvI jAvN)) (Nat.le_of_ble_eq_true rfl) ?_ ⟨rfl, rfl⟩
  unfold f_P_isUnderWay at h
  refine J.aload_n 0 d_P_isUnderWay_0 rfl rfl ?_
  refine J.iload_n 1 d_P_isUnderWay_1 rfl rfl ?_
  obtain ⟨x1, m2, zm2, h⟩ := jbd_some h
  refine J.cVi Y_P_isCopy (As := [.int v1]) (rest := []) hG d_P_isUnderWay_2 mi_P_isCopy mv_P_isCopy lk_P_39 ⟨rfl, rfl, Nat.le_of_ble_eq_true rfl⟩ cq_45 cc_5 (c_P_isCopy hG zm2) rfl (Nat.le_trans jcN (Nat.le_of_ble_eq_true rfl)) ?_
  refine J.if_eq 21 d_P_isUnderWay_5 rfl (fun c => ?_) (fun c => ?_)
  · rw [if_pos c] at h
    refine J.iconst (v := (0 : Int32)) d_P_isUnderWay_21 ki_0 ?_
    cases h
    exact J.iret d_P_isUnderWay_22 rfl rfl rfl
  · rw [if_neg c] at h
    refine J.aload_n 0 d_P_isUnderWay_8 rfl rfl ?_
    refine J.getF (n := 64) hG d_P_isUnderWay_9 fl_P_32 ck_45_9 rfl ?_
    refine J.iload_n 1 d_P_isUnderWay_12 rfl rfl ?_
    obtain ⟨x3, ex3, g, h⟩ := jld_some h
    refine J.il hG d_P_isUnderWay_13 g ex3 ?_
    refine J.nop (pc' := 14) rfl ?_
    refine J.if_ne 21 d_P_isUnderWay_14 rfl (fun c => ?_) (fun c => ?_)
    · rw [if_neg c] at h
      refine J.iconst (v := (0 : Int32)) d_P_isUnderWay_21 ki_0 ?_
      cases h
      exact J.iret d_P_isUnderWay_22 rfl rfl rfl
    · rw [if_pos c] at h
      refine J.iconst (v := (1 : Int32)) d_P_isUnderWay_17 ki_1 ?_
      refine J.goto 22 d_P_isUnderWay_18 rfl ?_
      cases h
      exact J.iret d_P_isUnderWay_22 rfl rfl rfl

def f_P_setSplit (v1 : Int32) (v2 : Int32) (v3 : Int32) (m : jMem) : Option (Unit × jMem) :=
  jpu m 45 2 v1 fun m1 =>
  jpu m1 45 3 v2 fun m2 =>
  jpu m2 45 4 v3 fun m3 =>
  some ((), m3)
theorem c_P_setSplit {G : jG} (hG : jFul G) {v1 : Int32} {v2 : Int32} {v3 : Int32} {m : jMem} {r : (Unit × jMem)} (h : f_P_setSplit v1 v2 v3 m = some r) : jCt G Y_P_setSplit [jr G 45, .int v1, .int v2, .int v3] m (jrv r) := by
  refine jCt.ov (ls := [(0, jr G 45), (1, .int v1), (2, .int v2), (3, .int v3)]) mi_P_setSplit (jAvR (jAvI (jAvI (jAvI jAvN)))) (Nat.le_of_ble_eq_true rfl) ?_ ⟨rfl, rfl⟩
  unfold f_P_setSplit at h
  refine J.aload_n 0 d_P_setSplit_0 rfl rfl ?_
  refine J.iload_n 1 d_P_setSplit_1 rfl rfl ?_
  obtain ⟨m1, hm1, h⟩ := jpu_some h
  refine J.putI hG d_P_setSplit_2 fl_P_59 fp_5_2 ck_45_2 hm1 ?_
  refine J.aload_n 0 d_P_setSplit_5 rfl rfl ?_
  refine J.iload_n 2 d_P_setSplit_6 rfl rfl ?_
  obtain ⟨m2, hm2, h⟩ := jpu_some h
  refine J.putI hG d_P_setSplit_7 fl_P_62 fp_5_3 ck_45_3 hm2 ?_
  refine J.aload_n 0 d_P_setSplit_10 rfl rfl ?_
  refine J.iload_n 3 d_P_setSplit_11 rfl rfl ?_
  refine J.nop (pc' := 12) rfl ?_
  obtain ⟨m3, hm3, h⟩ := jpu_some h
  refine J.putI hG d_P_setSplit_12 fl_P_65 fp_5_4 ck_45_4 hm3 ?_
  cases h
  exact J.vret d_P_setSplit_15 rfl rfl

def f_D_holds (v1 : Int32) (v2 : Int32) (m : jMem) : Option (Int32 × jMem) :=
  jbd (f_C_isWriter v1 m) fun x1 m2 =>
  if x1 = 0 then
    some ((0 : Int32), m2)
  else
    jld 1 m2 74 v1 fun x3 =>
    jbd (f_C_isIn x3 v2 m2) fun x4 m5 =>
    if x4 = 0 then
      some ((0 : Int32), m5)
    else
      some ((1 : Int32), m5)
theorem c_D_holds {G : jG} (hG : jFul G) {v1 : Int32} {v2 : Int32} {m : jMem} {r : (Int32 × jMem)} (h : f_D_holds v1 v2 m = some r) : jCt G Y_D_holds [jr G 65, .int v1, .int v2] m (jri r) := by
  refine jCt.ov (ls := [(0, jr G 65), (1, .int v1), (2, .int v2)]) mi_D_holds (jAvR (jAvI (jAvI jAvN))) (Nat.le_of_ble_eq_true rfl) ?_ ⟨rfl, rfl⟩
  unfold f_D_holds at h
  refine J.iload_n 1 d_D_holds_0 rfl rfl ?_
  obtain ⟨x1, m2, zm2, h⟩ := jbd_some h
  refine J.cSi Y_C_isWriter (As := [.int v1]) (rest := []) d_D_holds_1 mi_C_isWriter ms_C_isWriter lk_D_29 ⟨rfl, rfl, Nat.le_of_ble_eq_true rfl⟩ (c_C_isWriter hG zm2) rfl (Nat.le_trans jcN (Nat.le_of_ble_eq_true rfl)) ?_
  refine J.if_eq 24 d_D_holds_4 rfl (fun c => ?_) (fun c => ?_)
  · rw [if_pos c] at h
    refine J.iconst (v := (0 : Int32)) d_D_holds_24 ki_0 ?_
    cases h
    exact J.iret d_D_holds_25 rfl rfl rfl
  · rw [if_neg c] at h
    refine J.aload_n 0 d_D_holds_7 rfl rfl ?_
    refine J.getF (n := 74) hG d_D_holds_8 fl_D_20 ck_65_2 rfl ?_
    refine J.iload_n 1 d_D_holds_11 rfl rfl ?_
    obtain ⟨x3, ex3, g, h⟩ := jld_some h
    refine J.il hG d_D_holds_12 g ex3 ?_
    refine J.iload_n 2 d_D_holds_13 rfl rfl ?_
    refine J.nop (pc' := 14) rfl ?_
    obtain ⟨x4, m5, zm5, h⟩ := jbd_some h
    refine J.cSi Y_C_isIn (As := [.int x3, .int v2]) (rest := []) d_D_holds_14 mi_C_isIn ms_C_isIn lk_D_33 ⟨rfl, rfl, Nat.le_of_ble_eq_true rfl⟩ (c_C_isIn hG zm5) rfl (Nat.le_trans jcN (Nat.le_of_ble_eq_true rfl)) ?_
    refine J.if_eq 24 d_D_holds_17 rfl (fun c => ?_) (fun c => ?_)
    · rw [if_pos c] at h
      refine J.iconst (v := (0 : Int32)) d_D_holds_24 ki_0 ?_
      cases h
      exact J.iret d_D_holds_25 rfl rfl rfl
    · rw [if_neg c] at h
      refine J.iconst (v := (1 : Int32)) d_D_holds_20 ki_1 ?_
      refine J.goto 25 d_D_holds_21 rfl ?_
      cases h
      exact J.iret d_D_holds_25 rfl rfl rfl

def f_D_put (v1 : Int32) (v2 : Int32) (m : jMem) : Option (Unit × jMem) :=
  jbd (f_C_isWriter v1 m) fun x1 m2 =>
  if x1 = 0 then
    some ((), m2)
  else
    jld 1 m2 73 v1 fun x3 =>
    if x3 < (30 : Int32) then
      jl3 66 v1 fun q4 =>
      jld 1 m2 73 v1 fun x5 =>
      jst 1 m2 q4 x5 v2 fun m6 =>
      jld 1 m6 73 v1 fun x7 =>
      jst 1 m6 73 v1 (x7 + (1 : Int32)) fun m8 =>
      jld 1 m8 74 v1 fun x9 =>
      jbd (f_C_bit v2 m8) fun x10 m11 =>
      jst 1 m11 74 v1 (x9 ||| x10) fun m12 =>
      some ((), m12)
    else
      some ((), m2)
theorem c_D_put {G : jG} (hG : jFul G) {v1 : Int32} {v2 : Int32} {m : jMem} {r : (Unit × jMem)} (h : f_D_put v1 v2 m = some r) : jCt G Y_D_put [jr G 65, .int v1, .int v2] m (jrv r) := by
  refine jCt.ov (ls := [(0, jr G 65), (1, .int v1), (2, .int v2)]) mi_D_put (jAvR (jAvI (jAvI jAvN))) (Nat.le_of_ble_eq_true rfl) ?_ ⟨rfl, rfl⟩
  unfold f_D_put at h
  refine J.iload_n 1 d_D_put_0 rfl rfl ?_
  obtain ⟨x1, m2, zm2, h⟩ := jbd_some h
  refine J.cSi Y_C_isWriter (As := [.int v1]) (rest := []) d_D_put_1 mi_C_isWriter ms_C_isWriter lk_D_29 ⟨rfl, rfl, Nat.le_of_ble_eq_true rfl⟩ (c_C_isWriter hG zm2) rfl (Nat.le_trans jcN (Nat.le_of_ble_eq_true rfl)) ?_
  refine J.if_eq 18 d_D_put_4 rfl (fun c => ?_) (fun c => ?_)
  · rw [if_pos c] at h
    cases h
    exact J.vret d_D_put_18 rfl rfl
  · rw [if_neg c] at h
    refine J.aload_n 0 d_D_put_7 rfl rfl ?_
    refine J.getF (n := 73) hG d_D_put_8 fl_D_16 ck_65_1 rfl ?_
    refine J.iload_n 1 d_D_put_11 rfl rfl ?_
    obtain ⟨x3, ex3, g, h⟩ := jld_some h
    refine J.il hG d_D_put_12 g ex3 ?_
    refine J.bipush (v := (30 : Int32)) d_D_put_13 kb_30 ?_
    refine J.nop (pc' := 15) rfl ?_
    refine J.icmp_lt 19 d_D_put_15 rfl (fun c => ?_) (fun c => ?_)
    · rw [if_pos c] at h
      refine J.aload_n 0 d_D_put_19 rfl rfl ?_
      refine J.getF (n := 66) hG d_D_put_20 fl_D_11 ck_65_0 rfl ?_
      refine J.iload_n 1 d_D_put_23 rfl rfl ?_
      obtain ⟨q4, eq4, gq4, h⟩ := jl3_some h
      refine J.a3 hG d_D_put_24 gq4 eq4 ?_
      refine J.aload_n 0 d_D_put_25 rfl rfl ?_
      refine J.getF (n := 73) hG d_D_put_26 fl_D_16 ck_65_1 rfl ?_
      refine J.iload_n 1 d_D_put_29 rfl rfl ?_
      obtain ⟨x5, ex5, g, h⟩ := jld_some h
      refine J.il hG d_D_put_30 g ex5 ?_
      refine J.nop (pc' := 31) rfl ?_
      refine J.iload_n 2 d_D_put_31 rfl rfl ?_
      obtain ⟨m6, hm6, g, h⟩ := jst_some h
      refine J.is hG d_D_put_32 g hm6 ?_
      refine J.aload_n 0 d_D_put_33 rfl rfl ?_
      refine J.getF (n := 73) hG d_D_put_34 fl_D_16 ck_65_1 rfl ?_
      refine J.iload_n 1 d_D_put_37 rfl rfl ?_
      refine J.dup2 d_D_put_38 rfl (jr_cat _ _) ?_
      obtain ⟨x7, ex7, g, h⟩ := jld_some h
      refine J.il hG d_D_put_39 g ex7 ?_
      refine J.iconst (v := (1 : Int32)) d_D_put_40 ki_1 ?_
      refine J.nop (pc' := 41) rfl ?_
      refine J.iadd d_D_put_41 ?_
      obtain ⟨m8, hm8, g, h⟩ := jst_some h
      refine J.is hG d_D_put_42 g hm8 ?_
      refine J.aload_n 0 d_D_put_43 rfl rfl ?_
      refine J.getF (n := 74) hG d_D_put_44 fl_D_20 ck_65_2 rfl ?_
      refine J.iload_n 1 d_D_put_47 rfl rfl ?_
      refine J.dup2 d_D_put_48 rfl (jr_cat _ _) ?_
      obtain ⟨x9, ex9, g, h⟩ := jld_some h
      refine J.il hG d_D_put_49 g ex9 ?_
      refine J.iload_n 2 d_D_put_50 rfl rfl ?_
      refine J.nop (pc' := 51) rfl ?_
      obtain ⟨x10, m11, zm11, h⟩ := jbd_some h
      refine J.cSi Y_C_bit (As := [.int v2]) (rest := [.int x9, .int v1, jr G 74]) d_D_put_51 mi_C_bit ms_C_bit lk_D_37 ⟨rfl, rfl, Nat.le_of_ble_eq_true rfl⟩ (c_C_bit hG zm11) rfl (Nat.le_trans (jcI (jcI (jcR jcN))) (Nat.le_of_ble_eq_true rfl)) ?_
      refine J.ior d_D_put_54 ?_
      obtain ⟨m12, hm12, g, h⟩ := jst_some h
      refine J.is hG d_D_put_55 g hm12 ?_
      cases h
      exact J.vret d_D_put_56 rfl rfl
    · rw [if_neg c] at h
      cases h
      exact J.vret d_D_put_18 rfl rfl

def f_D_letterAt (v1 : Int32) (v2 : Int32) (m : jMem) : Option (Int32 × jMem) :=
  jbd (f_C_isWriter v1 m) fun x1 m2 =>
  if x1 = 0 then
    some ((-1 : Int32), m2)
  else
    if v2 < 0 then
      some ((-1 : Int32), m2)
    else
      if (30 : Int32) ≤ v2 then
        some ((-1 : Int32), m2)
      else
        jl3 66 v1 fun q3 =>
        jld 1 m2 q3 v2 fun x4 =>
        some (x4, m2)
theorem c_D_letterAt {G : jG} (hG : jFul G) {v1 : Int32} {v2 : Int32} {m : jMem} {r : (Int32 × jMem)} (h : f_D_letterAt v1 v2 m = some r) : jCt G Y_D_letterAt [jr G 65, .int v1, .int v2] m (jri r) := by
  refine jCt.ov (ls := [(0, jr G 65), (1, .int v1), (2, .int v2)]) mi_D_letterAt (jAvR (jAvI (jAvI jAvN))) (Nat.le_of_ble_eq_true rfl) ?_ ⟨rfl, rfl⟩
  unfold f_D_letterAt at h
  refine J.iload_n 1 d_D_letterAt_0 rfl rfl ?_
  obtain ⟨x1, m2, zm2, h⟩ := jbd_some h
  refine J.cSi Y_C_isWriter (As := [.int v1]) (rest := []) d_D_letterAt_1 mi_C_isWriter ms_C_isWriter lk_D_29 ⟨rfl, rfl, Nat.le_of_ble_eq_true rfl⟩ (c_C_isWriter hG zm2) rfl (Nat.le_trans jcN (Nat.le_of_ble_eq_true rfl)) ?_
  refine J.if_eq 28 d_D_letterAt_4 rfl (fun c => ?_) (fun c => ?_)
  · rw [if_pos c] at h
    refine J.iconst (v := (-1 : Int32)) d_D_letterAt_28 ki_m1 ?_
    cases h
    exact J.iret d_D_letterAt_29 rfl (vp_nar_int _) rfl
  · rw [if_neg c] at h
    refine J.iload_n 2 d_D_letterAt_7 rfl rfl ?_
    refine J.if_lt 28 d_D_letterAt_8 rfl (fun c => ?_) (fun c => ?_)
    · rw [if_pos c] at h
      refine J.iconst (v := (-1 : Int32)) d_D_letterAt_28 ki_m1 ?_
      cases h
      exact J.iret d_D_letterAt_29 rfl (vp_nar_int _) rfl
    · rw [if_neg c] at h
      refine J.iload_n 2 d_D_letterAt_11 rfl rfl ?_
      refine J.bipush (v := (30 : Int32)) d_D_letterAt_12 kb_30 ?_
      refine J.icmp_ge 28 d_D_letterAt_14 rfl (fun c => ?_) (fun c => ?_)
      · rw [if_pos c] at h
        refine J.iconst (v := (-1 : Int32)) d_D_letterAt_28 ki_m1 ?_
        cases h
        exact J.iret d_D_letterAt_29 rfl (vp_nar_int _) rfl
      · rw [if_neg c] at h
        refine J.nop (pc' := 17) rfl ?_
        refine J.aload_n 0 d_D_letterAt_17 rfl rfl ?_
        refine J.getF (n := 66) hG d_D_letterAt_18 fl_D_11 ck_65_0 rfl ?_
        refine J.iload_n 1 d_D_letterAt_21 rfl rfl ?_
        obtain ⟨q3, eq3, gq3, h⟩ := jl3_some h
        refine J.a3 hG d_D_letterAt_22 gq3 eq3 ?_
        refine J.iload_n 2 d_D_letterAt_23 rfl rfl ?_
        obtain ⟨x4, ex4, g, h⟩ := jld_some h
        refine J.il hG d_D_letterAt_24 g ex4 ?_
        refine J.goto 29 d_D_letterAt_25 rfl ?_
        cases h
        exact J.iret d_D_letterAt_29 rfl (vp_nar_int _) rfl

def lp_D_take_16 (v1 : Int32) (v2 : Int32) (v3 : Int32) (k67 : Int32 → jMem → Option (Unit × jMem)) : Nat → Int32 → Int32 → jMem → Option (Unit × jMem)
  | 0, _, _, _ => none
  | n + 1, v4, v5, m =>
    jld 1 m 73 v1 fun x3 =>
    if x3 ≤ v5 then
      k67 v4 m
    else
      jl3 66 v1 fun q4 =>
      jld 1 m q4 v5 fun x5 =>
      if x5 = v2 then
        lp_D_take_16 v1 v2 v3 k67 n v4 (v5 + (1 : Int32)) m
      else
        jl3 66 v1 fun q6 =>
        jl3 66 v1 fun q7 =>
        jld 1 m q7 v5 fun x8 =>
        jst 1 m q6 v4 x8 fun m9 =>
        lp_D_take_16 v1 v2 v3 k67 n (v4 + (1 : Int32)) (v5 + (1 : Int32)) m9
def f_D_take (v1 : Int32) (v2 : Int32) (v3 : Int32) (m : jMem) : Option (Unit × jMem) :=
  jbd (f_D_holds v1 v2 m) fun x1 m2 =>
  if x1 = 0 then
    some ((), m2)
  else
    lp_D_take_16 v1 v2 v3 (fun w11 m10 =>
      jst 1 m10 73 v1 w11 fun m12 =>
      jld 1 m12 74 v1 fun x13 =>
      jbd (f_C_bit v2 m12) fun x14 m15 =>
      jst 1 m15 74 v1 (x13 &&& (x14 ^^^ (-1 : Int32))) fun m16 =>
      jld 1 m16 75 v1 fun x17 =>
      jbd (f_C_bit v2 m16) fun x18 m19 =>
      jst 1 m19 75 v1 (x17 ||| x18) fun m20 =>
      jl3 76 v1 fun q21 =>
      jst 1 m20 q21 v2 v3 fun m22 =>
      some ((), m22)) 5000 (0 : Int32) (0 : Int32) m2
theorem jlp_D_take_16 {G : jG} (hG : jFul G) (v1 : Int32) (v2 : Int32) (v3 : Int32) (k67 : Int32 → jMem → Option (Unit × jMem))
    (hk67 : ∀ (v4 : Int32) (m : jMem) (r : (Unit × jMem)), k67 v4 m = some r → J G Y_D_take 67 [(0, jr G 65), (1, .int v1), (2, .int v2), (3, .int v3), (4, .int v4)] [] m (jrv r)) : ∀ (n : Nat) (v4 : Int32) (v5 : Int32) (m : jMem) (r : (Unit × jMem)), lp_D_take_16 v1 v2 v3 k67 n v4 v5 m = some r → J G Y_D_take 16 [(0, jr G 65), (1, .int v1), (2, .int v2), (3, .int v3), (4, .int v4), (5, .int v5)] [] m (jrv r) := by
  intro n
  induction n with
  | zero => intro v4 v5 m r h; unfold lp_D_take_16 at h; cases h
  | succ n ih =>
    intro v4 v5 m r h
    unfold lp_D_take_16 at h
    refine J.iload 5 d_D_take_16 rfl ?_
    refine J.aload_n 0 d_D_take_18 rfl rfl ?_
    refine J.getF (n := 73) hG d_D_take_19 fl_D_16 ck_65_1 rfl ?_
    refine J.iload_n 1 d_D_take_22 rfl rfl ?_
    obtain ⟨x3, ex3, g, h⟩ := jld_some h
    refine J.il hG d_D_take_23 g ex3 ?_
    refine J.icmp_ge 67 d_D_take_24 rfl (fun c => ?_) (fun c => ?_)
    · rw [if_pos c] at h
      exact J.sub (ls' := [(0, jr G 65), (1, .int v1), (2, .int v2), (3, .int v3), (4, .int v4)]) [0, 1, 2, 3, 4] rfl (hk67 v4 m _ h)
    · rw [if_neg c] at h
      refine J.aload_n 0 d_D_take_27 rfl rfl ?_
      refine J.getF (n := 66) hG d_D_take_28 fl_D_11 ck_65_0 rfl ?_
      refine J.nop (pc' := 31) rfl ?_
      refine J.iload_n 1 d_D_take_31 rfl rfl ?_
      obtain ⟨q4, eq4, gq4, h⟩ := jl3_some h
      refine J.a3 hG d_D_take_32 gq4 eq4 ?_
      refine J.iload 5 d_D_take_33 rfl ?_
      obtain ⟨x5, ex5, g, h⟩ := jld_some h
      refine J.il hG d_D_take_35 g ex5 ?_
      refine J.iload_n 2 d_D_take_36 rfl rfl ?_
      refine J.icmp_eq 61 d_D_take_37 rfl (fun c => ?_) (fun c => ?_)
      · rw [if_pos c] at h
        refine J.iinc 5 (v := (1 : Int32)) (lv := [(5, .int (v5 + (1 : Int32))), (0, jr G 65), (1, .int v1), (2, .int v2), (3, .int v3), (4, .int v4)]) d_D_take_61 rfl ki_1 (by decide) rfl ?_
        refine J.goto 16 d_D_take_64 rfl ?_
        exact J.sub (ls' := [(0, jr G 65), (1, .int v1), (2, .int v2), (3, .int v3), (4, .int v4), (5, .int (v5 + (1 : Int32)))]) [1, 2, 3, 4, 5, 0] rfl (ih v4 (v5 + (1 : Int32)) m _ h)
      · rw [if_neg c] at h
        refine J.aload_n 0 d_D_take_40 rfl rfl ?_
        refine J.getF (n := 66) hG d_D_take_41 fl_D_11 ck_65_0 rfl ?_
        refine J.nop (pc' := 44) rfl ?_
        refine J.iload_n 1 d_D_take_44 rfl rfl ?_
        obtain ⟨q6, eq6, gq6, h⟩ := jl3_some h
        refine J.a3 hG d_D_take_45 gq6 eq6 ?_
        refine J.iload 4 d_D_take_46 rfl ?_
        refine J.aload_n 0 d_D_take_48 rfl rfl ?_
        refine J.getF (n := 66) hG d_D_take_49 fl_D_11 ck_65_0 rfl ?_
        refine J.iload_n 1 d_D_take_52 rfl rfl ?_
        obtain ⟨q7, eq7, gq7, h⟩ := jl3_some h
        refine J.a3 hG d_D_take_53 gq7 eq7 ?_
        refine J.iload 5 d_D_take_54 rfl ?_
        refine J.nop (pc' := 56) rfl ?_
        obtain ⟨x8, ex8, g, h⟩ := jld_some h
        refine J.il hG d_D_take_56 g ex8 ?_
        obtain ⟨m9, hm9, g, h⟩ := jst_some h
        refine J.is hG d_D_take_57 g hm9 ?_
        refine J.iinc 4 (v := (1 : Int32)) (lv := [(4, .int (v4 + (1 : Int32))), (0, jr G 65), (1, .int v1), (2, .int v2), (3, .int v3), (5, .int v5)]) d_D_take_58 rfl ki_1 (by decide) rfl ?_
        refine J.iinc 5 (v := (1 : Int32)) (lv := [(5, .int (v5 + (1 : Int32))), (4, .int (v4 + (1 : Int32))), (0, jr G 65), (1, .int v1), (2, .int v2), (3, .int v3)]) d_D_take_61 rfl ki_1 (by decide) rfl ?_
        refine J.goto 16 d_D_take_64 rfl ?_
        exact J.sub (ls' := [(0, jr G 65), (1, .int v1), (2, .int v2), (3, .int v3), (4, .int (v4 + (1 : Int32))), (5, .int (v5 + (1 : Int32)))]) [2, 3, 4, 5, 1, 0] rfl (ih (v4 + (1 : Int32)) (v5 + (1 : Int32)) m9 _ h)
theorem c_D_take {G : jG} (hG : jFul G) {v1 : Int32} {v2 : Int32} {v3 : Int32} {m : jMem} {r : (Unit × jMem)} (h : f_D_take v1 v2 v3 m = some r) : jCt G Y_D_take [jr G 65, .int v1, .int v2, .int v3] m (jrv r) := by
  refine jCt.ov (ls := [(0, jr G 65), (1, .int v1), (2, .int v2), (3, .int v3)]) mi_D_take (jAvR (jAvI (jAvI (jAvI jAvN)))) (Nat.le_of_ble_eq_true rfl) ?_ ⟨rfl, rfl⟩
  unfold f_D_take at h
  refine J.aload_n 0 d_D_take_0 rfl rfl ?_
  refine J.iload_n 1 d_D_take_1 rfl rfl ?_
  refine J.iload_n 2 d_D_take_2 rfl rfl ?_
  obtain ⟨x1, m2, zm2, h⟩ := jbd_some h
  refine J.cVi Y_D_holds (As := [.int v1, .int v2]) (rest := []) hG d_D_take_3 mi_D_holds mv_D_holds lk_D_41 ⟨rfl, rfl, Nat.le_of_ble_eq_true rfl⟩ cq_65 cc_6 (c_D_holds hG zm2) rfl (Nat.le_trans jcN (Nat.le_of_ble_eq_true rfl)) ?_
  refine J.if_ne 10 d_D_take_6 rfl (fun c => ?_) (fun c => ?_)
  · rw [if_neg c] at h
    refine J.iconst (v := (0 : Int32)) d_D_take_10 ki_0 ?_
    refine J.istore (lv := [(4, .int (0 : Int32)), (0, jr G 65), (1, .int v1), (2, .int v2), (3, .int v3)]) d_D_take_11 (by decide) rfl ?_
    refine J.iconst (v := (0 : Int32)) d_D_take_13 ki_0 ?_
    refine J.istore (lv := [(5, .int (0 : Int32)), (4, .int (0 : Int32)), (0, jr G 65), (1, .int v1), (2, .int v2), (3, .int v3)]) d_D_take_14 (by decide) rfl ?_
    refine J.sub (ls' := [(0, jr G 65), (1, .int v1), (2, .int v2), (3, .int v3), (4, .int (0 : Int32)), (5, .int (0 : Int32))]) [2, 3, 4, 5, 1, 0] rfl ?_
    refine jlp_D_take_16 hG v1 v2 v3 _ ?_ _ (0 : Int32) (0 : Int32) m2 _ h
    intro w11 m10 r h
    refine J.aload_n 0 d_D_take_67 rfl rfl ?_
    refine J.getF (n := 73) hG d_D_take_68 fl_D_16 ck_65_1 rfl ?_
    refine J.iload_n 1 d_D_take_71 rfl rfl ?_
    refine J.iload 4 d_D_take_72 rfl ?_
    obtain ⟨m12, hm12, g, h⟩ := jst_some h
    refine J.is hG d_D_take_74 g hm12 ?_
    refine J.aload_n 0 d_D_take_75 rfl rfl ?_
    refine J.getF (n := 74) hG d_D_take_76 fl_D_20 ck_65_2 rfl ?_
    refine J.iload_n 1 d_D_take_79 rfl rfl ?_
    refine J.nop (pc' := 80) rfl ?_
    refine J.dup2 d_D_take_80 rfl (jr_cat _ _) ?_
    obtain ⟨x13, ex13, g, h⟩ := jld_some h
    refine J.il hG d_D_take_81 g ex13 ?_
    refine J.iload_n 2 d_D_take_82 rfl rfl ?_
    obtain ⟨x14, m15, zm15, h⟩ := jbd_some h
    refine J.cSi Y_C_bit (As := [.int v2]) (rest := [.int x13, .int v1, jr G 74]) d_D_take_83 mi_C_bit ms_C_bit lk_D_37 ⟨rfl, rfl, Nat.le_of_ble_eq_true rfl⟩ (c_C_bit hG zm15) rfl (Nat.le_trans (jcI (jcI (jcR jcN))) (Nat.le_of_ble_eq_true rfl)) ?_
    refine J.iconst (v := (-1 : Int32)) d_D_take_86 ki_m1 ?_
    refine J.ixor d_D_take_87 ?_
    refine J.iand d_D_take_88 ?_
    obtain ⟨m16, hm16, g, h⟩ := jst_some h
    refine J.is hG d_D_take_89 g hm16 ?_
    refine J.nop (pc' := 90) rfl ?_
    refine J.aload_n 0 d_D_take_90 rfl rfl ?_
    refine J.getF (n := 75) hG d_D_take_91 fl_D_23 ck_65_3 rfl ?_
    refine J.iload_n 1 d_D_take_94 rfl rfl ?_
    refine J.dup2 d_D_take_95 rfl (jr_cat _ _) ?_
    obtain ⟨x17, ex17, g, h⟩ := jld_some h
    refine J.il hG d_D_take_96 g ex17 ?_
    refine J.iload_n 2 d_D_take_97 rfl rfl ?_
    obtain ⟨x18, m19, zm19, h⟩ := jbd_some h
    refine J.cSi Y_C_bit (As := [.int v2]) (rest := [.int x17, .int v1, jr G 75]) d_D_take_98 mi_C_bit ms_C_bit lk_D_37 ⟨rfl, rfl, Nat.le_of_ble_eq_true rfl⟩ (c_C_bit hG zm19) rfl (Nat.le_trans (jcI (jcI (jcR jcN))) (Nat.le_of_ble_eq_true rfl)) ?_
    refine J.ior d_D_take_101 ?_
    refine J.nop (pc' := 102) rfl ?_
    obtain ⟨m20, hm20, g, h⟩ := jst_some h
    refine J.is hG d_D_take_102 g hm20 ?_
    refine J.aload_n 0 d_D_take_103 rfl rfl ?_
    refine J.getF (n := 76) hG d_D_take_104 fl_D_26 ck_65_4 rfl ?_
    refine J.iload_n 1 d_D_take_107 rfl rfl ?_
    obtain ⟨q21, eq21, gq21, h⟩ := jl3_some h
    refine J.a3 hG d_D_take_108 gq21 eq21 ?_
    refine J.iload_n 2 d_D_take_109 rfl rfl ?_
    refine J.iload_n 3 d_D_take_110 rfl rfl ?_
    obtain ⟨m22, hm22, g, h⟩ := jst_some h
    refine J.is hG d_D_take_111 g hm22 ?_
    refine J.nop (pc' := 112) rfl ?_
    cases h
    exact J.vret d_D_take_112 rfl rfl
  · rw [if_pos c] at h
    cases h
    exact J.vret d_D_take_9 rfl rfl

def lp_P_onTheWayTo_4 (v1 : Int32) (k49 : Int32 → jMem → Option (Int32 × jMem)) : Nat → Int32 → Int32 → jMem → Option (Int32 × jMem)
  | 0, _, _, _ => none
  | n + 1, v2, v3, m =>
    if (m 45 10) ≤ v3 then
      k49 v2 m
    else
      jld 1 m 64 v3 fun x1 =>
      if x1 = 0 then
        jld 1 m 62 v3 fun x2 =>
        if x2 = v1 then
          jld 1 m 60 v3 fun x3 =>
          jbd (f_C_bit x3 m) fun x4 m5 =>
          lp_P_onTheWayTo_4 v1 k49 n (v2 ||| x4) (v3 + (1 : Int32)) m5
        else
          lp_P_onTheWayTo_4 v1 k49 n v2 (v3 + (1 : Int32)) m
      else
        lp_P_onTheWayTo_4 v1 k49 n v2 (v3 + (1 : Int32)) m
def f_P_onTheWayTo (v1 : Int32) (m : jMem) : Option (Int32 × jMem) :=
  lp_P_onTheWayTo_4 v1 (fun w7 m6 =>
    some (w7, m6)) 5000 (0 : Int32) (0 : Int32) m
theorem jlp_P_onTheWayTo_4 {G : jG} (hG : jFul G) (v1 : Int32) (k49 : Int32 → jMem → Option (Int32 × jMem))
    (hk49 : ∀ (v2 : Int32) (m : jMem) (r : (Int32 × jMem)), k49 v2 m = some r → J G Y_P_onTheWayTo 49 [(2, .int v2)] [] m (jri r)) : ∀ (n : Nat) (v2 : Int32) (v3 : Int32) (m : jMem) (r : (Int32 × jMem)), lp_P_onTheWayTo_4 v1 k49 n v2 v3 m = some r → J G Y_P_onTheWayTo 4 [(0, jr G 45), (1, .int v1), (2, .int v2), (3, .int v3)] [] m (jri r) := by
  intro n
  induction n with
  | zero => intro v2 v3 m r h; unfold lp_P_onTheWayTo_4 at h; cases h
  | succ n ih =>
    intro v2 v3 m r h
    unfold lp_P_onTheWayTo_4 at h
    refine J.iload_n 3 d_P_onTheWayTo_4 rfl rfl ?_
    refine J.aload_n 0 d_P_onTheWayTo_5 rfl rfl ?_
    refine J.getI hG d_P_onTheWayTo_6 fl_P_35 ck_45_10 ?_
    refine J.icmp_ge 49 d_P_onTheWayTo_9 rfl (fun c => ?_) (fun c => ?_)
    · rw [if_pos c] at h
      exact J.sub (ls' := [(2, .int v2)]) [2] rfl (hk49 v2 m _ h)
    · rw [if_neg c] at h
      refine J.aload_n 0 d_P_onTheWayTo_12 rfl rfl ?_
      refine J.getF (n := 64) hG d_P_onTheWayTo_13 fl_P_32 ck_45_9 rfl ?_
      refine J.iload_n 3 d_P_onTheWayTo_16 rfl rfl ?_
      obtain ⟨x1, ex1, g, h⟩ := jld_some h
      refine J.il hG d_P_onTheWayTo_17 g ex1 ?_
      refine J.nop (pc' := 18) rfl ?_
      refine J.if_ne 43 d_P_onTheWayTo_18 rfl (fun c => ?_) (fun c => ?_)
      · rw [if_neg c] at h
        refine J.iinc 3 (v := (1 : Int32)) (lv := [(3, .int (v3 + (1 : Int32))), (0, jr G 45), (1, .int v1), (2, .int v2)]) d_P_onTheWayTo_43 rfl ki_1 (by decide) rfl ?_
        refine J.goto 4 d_P_onTheWayTo_46 rfl ?_
        exact J.sub (ls' := [(0, jr G 45), (1, .int v1), (2, .int v2), (3, .int (v3 + (1 : Int32)))]) [1, 2, 3, 0] rfl (ih v2 (v3 + (1 : Int32)) m _ h)
      · rw [if_pos c] at h
        refine J.aload_n 0 d_P_onTheWayTo_21 rfl rfl ?_
        refine J.getF (n := 62) hG d_P_onTheWayTo_22 fl_P_26 ck_45_7 rfl ?_
        refine J.iload_n 3 d_P_onTheWayTo_25 rfl rfl ?_
        obtain ⟨x2, ex2, g, h⟩ := jld_some h
        refine J.il hG d_P_onTheWayTo_26 g ex2 ?_
        refine J.iload_n 1 d_P_onTheWayTo_27 rfl rfl ?_
        refine J.icmp_ne 43 d_P_onTheWayTo_28 rfl (fun c => ?_) (fun c => ?_)
        · rw [if_neg c] at h
          refine J.iinc 3 (v := (1 : Int32)) (lv := [(3, .int (v3 + (1 : Int32))), (0, jr G 45), (1, .int v1), (2, .int v2)]) d_P_onTheWayTo_43 rfl ki_1 (by decide) rfl ?_
          refine J.goto 4 d_P_onTheWayTo_46 rfl ?_
          exact J.sub (ls' := [(0, jr G 45), (1, .int v1), (2, .int v2), (3, .int (v3 + (1 : Int32)))]) [1, 2, 3, 0] rfl (ih v2 (v3 + (1 : Int32)) m _ h)
        · rw [if_pos c] at h
          refine J.iload_n 2 d_P_onTheWayTo_31 rfl rfl ?_
          refine J.nop (pc' := 32) rfl ?_
          refine J.aload_n 0 d_P_onTheWayTo_32 rfl rfl ?_
          refine J.getF (n := 60) hG d_P_onTheWayTo_33 fl_P_19 ck_45_5 rfl ?_
          refine J.iload_n 3 d_P_onTheWayTo_36 rfl rfl ?_
          obtain ⟨x3, ex3, g, h⟩ := jld_some h
          refine J.il hG d_P_onTheWayTo_37 g ex3 ?_
          obtain ⟨x4, m5, zm5, h⟩ := jbd_some h
          refine J.cSi Y_C_bit (As := [.int x3]) (rest := [.int v2]) d_P_onTheWayTo_38 mi_C_bit ms_C_bit lk_P_83 ⟨rfl, rfl, Nat.le_of_ble_eq_true rfl⟩ (c_C_bit hG zm5) rfl (Nat.le_trans (jcI jcN) (Nat.le_of_ble_eq_true rfl)) ?_
          refine J.ior d_P_onTheWayTo_41 ?_
          refine J.istore_n (lv := [(2, .int (v2 ||| x4)), (0, jr G 45), (1, .int v1), (3, .int v3)]) d_P_onTheWayTo_42 rfl (by decide) rfl ?_
          refine J.iinc 3 (v := (1 : Int32)) (lv := [(3, .int (v3 + (1 : Int32))), (2, .int (v2 ||| x4)), (0, jr G 45), (1, .int v1)]) d_P_onTheWayTo_43 rfl ki_1 (by decide) rfl ?_
          refine J.nop (pc' := 46) rfl ?_
          refine J.goto 4 d_P_onTheWayTo_46 rfl ?_
          exact J.sub (ls' := [(0, jr G 45), (1, .int v1), (2, .int (v2 ||| x4)), (3, .int (v3 + (1 : Int32)))]) [2, 3, 1, 0] rfl (ih (v2 ||| x4) (v3 + (1 : Int32)) m5 _ h)
theorem c_P_onTheWayTo {G : jG} (hG : jFul G) {v1 : Int32} {m : jMem} {r : (Int32 × jMem)} (h : f_P_onTheWayTo v1 m = some r) : jCt G Y_P_onTheWayTo [jr G 45, .int v1] m (jri r) := by
  refine jCt.ov (ls := [(0, jr G 45), (1, .int v1)]) mi_P_onTheWayTo (jAvR (jAvI jAvN)) (Nat.le_of_ble_eq_true rfl) ?_ ⟨rfl, rfl⟩
  unfold f_P_onTheWayTo at h
  refine J.iconst (v := (0 : Int32)) d_P_onTheWayTo_0 ki_0 ?_
  refine J.istore_n (lv := [(2, .int (0 : Int32)), (0, jr G 45), (1, .int v1)]) d_P_onTheWayTo_1 rfl (by decide) rfl ?_
  refine J.iconst (v := (0 : Int32)) d_P_onTheWayTo_2 ki_0 ?_
  refine J.istore_n (lv := [(3, .int (0 : Int32)), (2, .int (0 : Int32)), (0, jr G 45), (1, .int v1)]) d_P_onTheWayTo_3 rfl (by decide) rfl ?_
  refine J.sub (ls' := [(0, jr G 45), (1, .int v1), (2, .int (0 : Int32)), (3, .int (0 : Int32))]) [2, 3, 1, 0] rfl ?_
  refine jlp_P_onTheWayTo_4 hG v1 _ ?_ _ (0 : Int32) (0 : Int32) m _ h
  intro w7 m6 r h
  refine J.iload_n 0 d_P_onTheWayTo_49 rfl rfl ?_
  cases h
  exact J.iret d_P_onTheWayTo_50 rfl (vp_nar_int _) rfl

def f_U_mayHaveKnown (v1 : Int32) (v2 : Int32) (m : jMem) : Option (Int32 × jMem) :=
  jld 1 m 30 v1 fun x1 =>
  jld 1 m 30 v2 fun x2 =>
  if x1 = x2 then
    if v2 ≤ v1 then
      some ((0 : Int32), m)
    else
      some ((1 : Int32), m)
  else
    jld 1 m 31 v2 fun x3 =>
    jld 1 m 31 v1 fun x4 =>
    jl3 53 x1 fun q5 =>
    jld 1 m q5 x2 fun x6 =>
    if (x3 - x4) < x6 then
      some ((0 : Int32), m)
    else
      some ((1 : Int32), m)
theorem c_U_mayHaveKnown {G : jG} (hG : jFul G) {v1 : Int32} {v2 : Int32} {m : jMem} {r : (Int32 × jMem)} (h : f_U_mayHaveKnown v1 v2 m = some r) : jCt G Y_U_mayHaveKnown [jr G 83, .int v1, .int v2] m (jri r) := by
  refine jCt.ov (ls := [(0, jr G 83), (1, .int v1), (2, .int v2)]) mi_U_mayHaveKnown (jAvR (jAvI (jAvI jAvN))) (Nat.le_of_ble_eq_true rfl) ?_ ⟨rfl, rfl⟩
  unfold f_U_mayHaveKnown at h
  refine J.aload_n 0 d_U_mayHaveKnown_0 rfl rfl ?_
  refine J.getF (n := 29) hG d_U_mayHaveKnown_1 fl_U_9 ck_83_0 rfl ?_
  refine J.getF (n := 30) hG d_U_mayHaveKnown_4 fl_U_19 ck_29_0 rfl ?_
  refine J.iload_n 1 d_U_mayHaveKnown_7 rfl rfl ?_
  obtain ⟨x1, ex1, g, h⟩ := jld_some h
  refine J.il hG d_U_mayHaveKnown_8 g ex1 ?_
  refine J.istore_n (lv := [(3, .int x1), (0, jr G 83), (1, .int v1), (2, .int v2)]) d_U_mayHaveKnown_9 rfl (by decide) rfl ?_
  refine J.aload_n 1 d_U_mayHaveKnown_10 rfl rfl ?_
  refine J.getF (n := 29) hG d_U_mayHaveKnown_11 fl_U_9 ck_83_0 rfl ?_
  refine J.nop (pc' := 14) rfl ?_
  refine J.getF (n := 30) hG d_U_mayHaveKnown_14 fl_U_19 ck_29_0 rfl ?_
  refine J.iload_n 3 d_U_mayHaveKnown_17 rfl rfl ?_
  obtain ⟨x2, ex2, g, h⟩ := jld_some h
  refine J.il hG d_U_mayHaveKnown_18 g ex2 ?_
  refine J.istore (lv := [(4, .int x2), (3, .int x1), (0, jr G 83), (1, .int v1), (2, .int v2)]) d_U_mayHaveKnown_19 (by decide) rfl ?_
  refine J.iload_n 1 d_U_mayHaveKnown_21 rfl rfl ?_
  refine J.iload 0 d_U_mayHaveKnown_22 rfl ?_
  refine J.icmp_ne 38 d_U_mayHaveKnown_24 rfl (fun c => ?_) (fun c => ?_)
  · rw [if_neg c] at h
    refine J.aload_n 2 d_U_mayHaveKnown_38 rfl rfl ?_
    refine J.getF (n := 29) hG d_U_mayHaveKnown_39 fl_U_9 ck_83_0 rfl ?_
    refine J.getF (n := 31) hG d_U_mayHaveKnown_42 fl_U_25 ck_29_1 rfl ?_
    refine J.iload_n 4 d_U_mayHaveKnown_45 rfl rfl ?_
    obtain ⟨x3, ex3, g, h⟩ := jld_some h
    refine J.il hG d_U_mayHaveKnown_46 g ex3 ?_
    refine J.aload_n 2 d_U_mayHaveKnown_47 rfl rfl ?_
    refine J.getF (n := 29) hG d_U_mayHaveKnown_48 fl_U_9 ck_83_0 rfl ?_
    refine J.getF (n := 31) hG d_U_mayHaveKnown_51 fl_U_25 ck_29_1 rfl ?_
    refine J.nop (pc' := 54) rfl ?_
    refine J.iload_n 3 d_U_mayHaveKnown_54 rfl rfl ?_
    obtain ⟨x4, ex4, g, h⟩ := jld_some h
    refine J.il hG d_U_mayHaveKnown_55 g ex4 ?_
    refine J.isub d_U_mayHaveKnown_56 ?_
    refine J.aload_n 2 d_U_mayHaveKnown_57 rfl rfl ?_
    refine J.getF (n := 45) hG d_U_mayHaveKnown_58 fl_U_15 ck_83_1 rfl ?_
    refine J.getF (n := 53) hG d_U_mayHaveKnown_61 fl_U_28 ck_45_1 rfl ?_
    refine J.iload_n 1 d_U_mayHaveKnown_64 rfl rfl ?_
    obtain ⟨q5, eq5, gq5, h⟩ := jl3_some h
    refine J.a3 hG d_U_mayHaveKnown_65 gq5 eq5 ?_
    refine J.nop (pc' := 66) rfl ?_
    refine J.iload 0 d_U_mayHaveKnown_66 rfl ?_
    obtain ⟨x6, ex6, g, h⟩ := jld_some h
    refine J.il hG d_U_mayHaveKnown_68 g ex6 ?_
    refine J.icmp_lt 76 d_U_mayHaveKnown_69 rfl (fun c => ?_) (fun c => ?_)
    · rw [if_pos c] at h
      refine J.iconst (v := (0 : Int32)) d_U_mayHaveKnown_76 ki_0 ?_
      cases h
      exact J.iret d_U_mayHaveKnown_77 rfl rfl rfl
    · rw [if_neg c] at h
      refine J.iconst (v := (1 : Int32)) d_U_mayHaveKnown_72 ki_1 ?_
      refine J.goto 77 d_U_mayHaveKnown_73 rfl ?_
      cases h
      exact J.iret d_U_mayHaveKnown_77 rfl rfl rfl
  · rw [if_pos c] at h
    refine J.iload_n 3 d_U_mayHaveKnown_27 rfl rfl ?_
    refine J.nop (pc' := 28) rfl ?_
    refine J.iload_n 4 d_U_mayHaveKnown_28 rfl rfl ?_
    refine J.icmp_ge 36 d_U_mayHaveKnown_29 rfl (fun c => ?_) (fun c => ?_)
    · rw [if_pos c] at h
      refine J.iconst (v := (0 : Int32)) d_U_mayHaveKnown_36 ki_0 ?_
      cases h
      exact J.iret d_U_mayHaveKnown_37 rfl rfl rfl
    · rw [if_neg c] at h
      refine J.iconst (v := (1 : Int32)) d_U_mayHaveKnown_32 ki_1 ?_
      refine J.goto 37 d_U_mayHaveKnown_33 rfl ?_
      cases h
      exact J.iret d_U_mayHaveKnown_37 rfl rfl rfl

def f_U_numberIn (v0 : Int32) (v1 : Int32) (m : jMem) : Option (Int32 × jMem) :=
  some (((v0 >>> (((5 : Int32) * v1) &&& 31)) &&& (31 : Int32)), m)
theorem c_U_numberIn {G : jG} (hG : jFul G) {v0 : Int32} {v1 : Int32} {m : jMem} {r : (Int32 × jMem)} (h : f_U_numberIn v0 v1 m = some r) : jCt G Y_U_numberIn [.int v0, .int v1] m (jri r) := by
  refine jCt.ov (ls := [(0, .int v0), (1, .int v1)]) mi_U_numberIn (jAvI (jAvI jAvN)) (Nat.le_of_ble_eq_true rfl) ?_ ⟨rfl, rfl⟩
  unfold f_U_numberIn at h
  refine J.iload_n 0 d_U_numberIn_0 rfl rfl ?_
  refine J.iconst (v := (5 : Int32)) d_U_numberIn_1 ki_5 ?_
  refine J.iload_n 1 d_U_numberIn_2 rfl rfl ?_
  refine J.imul d_U_numberIn_3 ?_
  refine J.ishr d_U_numberIn_4 ?_
  refine J.bipush (v := (31 : Int32)) d_U_numberIn_5 kb_31 ?_
  refine J.iand d_U_numberIn_7 ?_
  cases h
  exact J.iret d_U_numberIn_8 rfl (vp_nar_int _) rfl

def lp_U_bearsMore_2 (v1 : Int32) (v2 : Int32) (k25 : jMem → Option (Int32 × jMem)) (k33 : jMem → Option (Int32 × jMem)) : Nat → Int32 → jMem → Option (Int32 × jMem)
  | 0, _, _ => none
  | n + 1, v3, m =>
    if (6 : Int32) ≤ v3 then
      k33 m
    else
      jbd (f_L_numberFor v1 v3 m) fun x1 m2 =>
      jbd (f_U_numberIn v2 v3 m2) fun x3 m4 =>
      if x1 ≤ x3 then
        lp_U_bearsMore_2 v1 v2 k25 k33 n (v3 + (1 : Int32)) m4
      else
        k25 m4
def f_U_bearsMore (v1 : Int32) (v2 : Int32) (m : jMem) : Option (Int32 × jMem) :=
  lp_U_bearsMore_2 v1 v2 (fun m5 =>
    some ((1 : Int32), m5)) (fun m6 =>
    some ((0 : Int32), m6)) 5000 (0 : Int32) m
theorem jlp_U_bearsMore_2 {G : jG} (hG : jFul G) (v1 : Int32) (v2 : Int32) (k25 : jMem → Option (Int32 × jMem)) (k33 : jMem → Option (Int32 × jMem))
    (hk25 : ∀ (m : jMem) (r : (Int32 × jMem)), k25 m = some r → J G Y_U_bearsMore 25 [] [] m (jri r))
    (hk33 : ∀ (m : jMem) (r : (Int32 × jMem)), k33 m = some r → J G Y_U_bearsMore 33 [] [] m (jri r)) : ∀ (n : Nat) (v3 : Int32) (m : jMem) (r : (Int32 × jMem)), lp_U_bearsMore_2 v1 v2 k25 k33 n v3 m = some r → J G Y_U_bearsMore 2 [(0, jr G 83), (1, .int v1), (2, .int v2), (3, .int v3)] [] m (jri r) := by
  intro n
  induction n with
  | zero => intro v3 m r h; unfold lp_U_bearsMore_2 at h; cases h
  | succ n ih =>
    intro v3 m r h
    unfold lp_U_bearsMore_2 at h
    refine J.iload_n 3 d_U_bearsMore_2 rfl rfl ?_
    refine J.bipush (v := (6 : Int32)) d_U_bearsMore_3 kb_6 ?_
    refine J.icmp_ge 33 d_U_bearsMore_5 rfl (fun c => ?_) (fun c => ?_)
    · rw [if_pos c] at h
      exact J.sub (ls' := []) [] rfl (hk33  m _ h)
    · rw [if_neg c] at h
      refine J.aload_n 0 d_U_bearsMore_8 rfl rfl ?_
      refine J.getF (n := 29) hG d_U_bearsMore_9 fl_U_9 ck_83_0 rfl ?_
      refine J.iload_n 1 d_U_bearsMore_12 rfl rfl ?_
      refine J.iload_n 3 d_U_bearsMore_13 rfl rfl ?_
      obtain ⟨x1, m2, zm2, h⟩ := jbd_some h
      refine J.cVi Y_L_numberFor (As := [.int v1, .int v3]) (rest := []) hG d_U_bearsMore_14 mi_L_numberFor mv_L_numberFor lk_U_62 ⟨rfl, rfl, Nat.le_of_ble_eq_true rfl⟩ cq_29 cc_4 (c_L_numberFor hG zm2) rfl (Nat.le_trans jcN (Nat.le_of_ble_eq_true rfl)) ?_
      refine J.nop (pc' := 17) rfl ?_
      refine J.iload_n 2 d_U_bearsMore_17 rfl rfl ?_
      refine J.iload_n 3 d_U_bearsMore_18 rfl rfl ?_
      obtain ⟨x3, m4, zm4, h⟩ := jbd_some h
      refine J.cSi Y_U_numberIn (As := [.int v2, .int v3]) (rest := [.int x1]) d_U_bearsMore_19 mi_U_numberIn ms_U_numberIn lk_U_52 ⟨rfl, rfl, Nat.le_of_ble_eq_true rfl⟩ (c_U_numberIn hG zm4) rfl (Nat.le_trans (jcI jcN) (Nat.le_of_ble_eq_true rfl)) ?_
      refine J.icmp_le 27 d_U_bearsMore_22 rfl (fun c => ?_) (fun c => ?_)
      · rw [if_pos c] at h
        refine J.iinc 3 (v := (1 : Int32)) (lv := [(3, .int (v3 + (1 : Int32))), (0, jr G 83), (1, .int v1), (2, .int v2)]) d_U_bearsMore_27 rfl ki_1 (by decide) rfl ?_
        refine J.goto 2 d_U_bearsMore_30 rfl ?_
        exact J.sub (ls' := [(0, jr G 83), (1, .int v1), (2, .int v2), (3, .int (v3 + (1 : Int32)))]) [1, 2, 3, 0] rfl (ih (v3 + (1 : Int32)) m4 _ h)
      · rw [if_neg c] at h
        exact J.sub (ls' := []) [] rfl (hk25  m4 _ h)
theorem c_U_bearsMore {G : jG} (hG : jFul G) {v1 : Int32} {v2 : Int32} {m : jMem} {r : (Int32 × jMem)} (h : f_U_bearsMore v1 v2 m = some r) : jCt G Y_U_bearsMore [jr G 83, .int v1, .int v2] m (jri r) := by
  refine jCt.ov (ls := [(0, jr G 83), (1, .int v1), (2, .int v2)]) mi_U_bearsMore (jAvR (jAvI (jAvI jAvN))) (Nat.le_of_ble_eq_true rfl) ?_ ⟨rfl, rfl⟩
  unfold f_U_bearsMore at h
  refine J.iconst (v := (0 : Int32)) d_U_bearsMore_0 ki_0 ?_
  refine J.istore_n (lv := [(3, .int (0 : Int32)), (0, jr G 83), (1, .int v1), (2, .int v2)]) d_U_bearsMore_1 rfl (by decide) rfl ?_
  refine J.sub (ls' := [(0, jr G 83), (1, .int v1), (2, .int v2), (3, .int (0 : Int32))]) [1, 2, 3, 0] rfl ?_
  refine jlp_U_bearsMore_2 hG v1 v2 _ _ ?_ ?_ _ (0 : Int32) m _ h
  · intro m5 r h
    refine J.iconst (v := (1 : Int32)) d_U_bearsMore_25 ki_1 ?_
    cases h
    exact J.iret d_U_bearsMore_26 rfl rfl rfl
  · intro m6 r h
    refine J.iconst (v := (0 : Int32)) d_U_bearsMore_33 ki_0 ?_
    cases h
    exact J.iret d_U_bearsMore_34 rfl rfl rfl

def lp_U_doesLack_3 (v1 : Int32) (v2 : Int32) (v3 : Int32) (k75 : jMem → Option (Int32 × jMem)) (k83 : jMem → Option (Int32 × jMem)) : Nat → Int32 → jMem → Option (Int32 × jMem)
  | 0, _, _ => none
  | n + 1, v4, m =>
    if (6 : Int32) ≤ v4 then
      k83 m
    else
      jbd (f_U_numberIn v3 v4 m) fun x1 m2 =>
      jbd (f_L_ofWriter v4 x1 m2) fun x3 m4 =>
      if x3 = (-1 : Int32) then
        if (0 : Int32) = 0 then
          lp_U_doesLack_3 v1 v2 v3 k75 k83 n (v4 + (1 : Int32)) m4
        else
          jbd (f_U_bearsMore x3 v3 m4) fun x5 m6 =>
          if x5 = 0 then
            lp_U_doesLack_3 v1 v2 v3 k75 k83 n (v4 + (1 : Int32)) m6
          else
            k75 m6
      else
        if v4 = v1 then
          jld 1 m4 31 x3 fun x9 =>
          if v2 < x9 then
            if (0 : Int32) = 0 then
              lp_U_doesLack_3 v1 v2 v3 k75 k83 n (v4 + (1 : Int32)) m4
            else
              jbd (f_U_bearsMore x3 v3 m4) fun x10 m11 =>
              if x10 = 0 then
                lp_U_doesLack_3 v1 v2 v3 k75 k83 n (v4 + (1 : Int32)) m11
              else
                k75 m11
          else
            if (1 : Int32) = 0 then
              lp_U_doesLack_3 v1 v2 v3 k75 k83 n (v4 + (1 : Int32)) m4
            else
              jbd (f_U_bearsMore x3 v3 m4) fun x12 m13 =>
              if x12 = 0 then
                lp_U_doesLack_3 v1 v2 v3 k75 k83 n (v4 + (1 : Int32)) m13
              else
                k75 m13
        else
          if (1 : Int32) = 0 then
            lp_U_doesLack_3 v1 v2 v3 k75 k83 n (v4 + (1 : Int32)) m4
          else
            jbd (f_U_bearsMore x3 v3 m4) fun x7 m8 =>
            if x7 = 0 then
              lp_U_doesLack_3 v1 v2 v3 k75 k83 n (v4 + (1 : Int32)) m8
            else
              k75 m8
def f_U_doesLack (v1 : Int32) (v2 : Int32) (v3 : Int32) (m : jMem) : Option (Int32 × jMem) :=
  lp_U_doesLack_3 v1 v2 v3 (fun m14 =>
    some ((1 : Int32), m14)) (fun m15 =>
    some ((0 : Int32), m15)) 5000 (0 : Int32) m
theorem jlp_U_doesLack_3 {G : jG} (hG : jFul G) (v1 : Int32) (v2 : Int32) (v3 : Int32) (k75 : jMem → Option (Int32 × jMem)) (k83 : jMem → Option (Int32 × jMem))
    (hk75 : ∀ (m : jMem) (r : (Int32 × jMem)), k75 m = some r → J G Y_U_doesLack 75 [] [] m (jri r))
    (hk83 : ∀ (m : jMem) (r : (Int32 × jMem)), k83 m = some r → J G Y_U_doesLack 83 [] [] m (jri r)) : ∀ (n : Nat) (v4 : Int32) (m : jMem) (r : (Int32 × jMem)), lp_U_doesLack_3 v1 v2 v3 k75 k83 n v4 m = some r → J G Y_U_doesLack 3 [(0, jr G 83), (1, .int v1), (2, .int v2), (3, .int v3), (4, .int v4)] [] m (jri r) := by
  intro n
  induction n with
  | zero => intro v4 m r h; unfold lp_U_doesLack_3 at h; cases h
  | succ n ih =>
    intro v4 m r h
    unfold lp_U_doesLack_3 at h
    refine J.iload 4 d_U_doesLack_3 rfl ?_
    refine J.bipush (v := (6 : Int32)) d_U_doesLack_5 kb_6 ?_
    refine J.icmp_ge 83 d_U_doesLack_7 rfl (fun c => ?_) (fun c => ?_)
    · rw [if_pos c] at h
      exact J.sub (ls' := []) [] rfl (hk83  m _ h)
    · rw [if_neg c] at h
      refine J.aload_n 0 d_U_doesLack_10 rfl rfl ?_
      refine J.getF (n := 29) hG d_U_doesLack_11 fl_U_9 ck_83_0 rfl ?_
      refine J.iload 4 d_U_doesLack_14 rfl ?_
      refine J.iload_n 3 d_U_doesLack_16 rfl rfl ?_
      refine J.iload 4 d_U_doesLack_17 rfl ?_
      refine J.nop (pc' := 19) rfl ?_
      obtain ⟨x1, m2, zm2, h⟩ := jbd_some h
      refine J.cSi Y_U_numberIn (As := [.int v3, .int v4]) (rest := [.int v4, jr G 29]) d_U_doesLack_19 mi_U_numberIn ms_U_numberIn lk_U_52 ⟨rfl, rfl, Nat.le_of_ble_eq_true rfl⟩ (c_U_numberIn hG zm2) rfl (Nat.le_trans (jcI (jcR jcN)) (Nat.le_of_ble_eq_true rfl)) ?_
      obtain ⟨x3, m4, zm4, h⟩ := jbd_some h
      refine J.cVi Y_L_ofWriter (As := [.int v4, .int x1]) (rest := []) hG d_U_doesLack_22 mi_L_ofWriter mv_L_ofWriter lk_U_55 ⟨rfl, rfl, Nat.le_of_ble_eq_true rfl⟩ cq_29 cc_4 (c_L_ofWriter hG zm4) rfl (Nat.le_trans jcN (Nat.le_of_ble_eq_true rfl)) ?_
      refine J.istore (lv := [(5, .int x3), (0, jr G 83), (1, .int v1), (2, .int v2), (3, .int v3), (4, .int v4)]) d_U_doesLack_25 (by decide) rfl ?_
      refine J.iload 0 d_U_doesLack_27 rfl ?_
      refine J.iconst (v := (-1 : Int32)) d_U_doesLack_29 ki_m1 ?_
      refine J.icmp_eq 57 d_U_doesLack_30 rfl (fun c => ?_) (fun c => ?_)
      · rw [if_pos c] at h
        refine J.iconst (v := (0 : Int32)) d_U_doesLack_57 ki_0 ?_
        refine J.istore (lv := [(6, .int (0 : Int32)), (5, .int x3), (0, jr G 83), (1, .int v1), (2, .int v2), (3, .int v3), (4, .int v4)]) d_U_doesLack_58 (by decide) rfl ?_
        refine J.iload 0 d_U_doesLack_60 rfl ?_
        refine J.if_eq 77 d_U_doesLack_62 rfl (fun c => ?_) (fun c => ?_)
        · rw [if_pos c] at h
          refine J.iinc 6 (v := (1 : Int32)) (lv := [(4, .int (v4 + (1 : Int32))), (6, .int (0 : Int32)), (5, .int x3), (0, jr G 83), (1, .int v1), (2, .int v2), (3, .int v3)]) d_U_doesLack_77 rfl ki_1 (by decide) rfl ?_
          refine J.goto 3 d_U_doesLack_80 rfl ?_
          exact J.sub (ls' := [(0, jr G 83), (1, .int v1), (2, .int v2), (3, .int v3), (4, .int (v4 + (1 : Int32)))]) [3, 4, 5, 6, 0] rfl (ih (v4 + (1 : Int32)) m4 _ h)
        · rw [if_neg c] at h
          refine J.aload_n 2 d_U_doesLack_65 rfl rfl ?_
          refine J.iload 1 d_U_doesLack_66 rfl ?_
          refine J.iload_n 5 d_U_doesLack_68 rfl rfl ?_
          obtain ⟨x5, m6, zm6, h⟩ := jbd_some h
          refine J.cVi Y_U_bearsMore (As := [.int x3, .int v3]) (rest := []) hG d_U_doesLack_69 mi_U_bearsMore mv_U_bearsMore lk_U_58 ⟨rfl, rfl, Nat.le_of_ble_eq_true rfl⟩ cq_83 cc_7 (c_U_bearsMore hG zm6) rfl (Nat.le_trans jcN (Nat.le_of_ble_eq_true rfl)) ?_
          refine J.nop (pc' := 72) rfl ?_
          refine J.if_eq 77 d_U_doesLack_72 rfl (fun c => ?_) (fun c => ?_)
          · rw [if_pos c] at h
            refine J.iinc 6 (v := (1 : Int32)) (lv := [(4, .int (v4 + (1 : Int32))), (6, .int (0 : Int32)), (5, .int x3), (0, jr G 83), (1, .int v1), (2, .int v2), (3, .int v3)]) d_U_doesLack_77 rfl ki_1 (by decide) rfl ?_
            refine J.goto 3 d_U_doesLack_80 rfl ?_
            exact J.sub (ls' := [(0, jr G 83), (1, .int v1), (2, .int v2), (3, .int v3), (4, .int (v4 + (1 : Int32)))]) [3, 4, 5, 6, 0] rfl (ih (v4 + (1 : Int32)) m6 _ h)
          · rw [if_neg c] at h
            exact J.sub (ls' := []) [] rfl (hk75  m6 _ h)
      · rw [if_neg c] at h
        refine J.iload 5 d_U_doesLack_33 rfl ?_
        refine J.iload_n 2 d_U_doesLack_35 rfl rfl ?_
        refine J.nop (pc' := 36) rfl ?_
        refine J.icmp_ne 53 d_U_doesLack_36 rfl (fun c => ?_) (fun c => ?_)
        · rw [if_neg c] at h
          refine J.iconst (v := (1 : Int32)) d_U_doesLack_53 ki_1 ?_
          refine J.goto 58 d_U_doesLack_54 rfl ?_
          refine J.istore (lv := [(6, .int (1 : Int32)), (5, .int x3), (0, jr G 83), (1, .int v1), (2, .int v2), (3, .int v3), (4, .int v4)]) d_U_doesLack_58 (by decide) rfl ?_
          refine J.iload 0 d_U_doesLack_60 rfl ?_
          refine J.if_eq 77 d_U_doesLack_62 rfl (fun c => ?_) (fun c => ?_)
          · rw [if_pos c] at h
            refine J.iinc 6 (v := (1 : Int32)) (lv := [(4, .int (v4 + (1 : Int32))), (6, .int (1 : Int32)), (5, .int x3), (0, jr G 83), (1, .int v1), (2, .int v2), (3, .int v3)]) d_U_doesLack_77 rfl ki_1 (by decide) rfl ?_
            refine J.goto 3 d_U_doesLack_80 rfl ?_
            exact J.sub (ls' := [(0, jr G 83), (1, .int v1), (2, .int v2), (3, .int v3), (4, .int (v4 + (1 : Int32)))]) [3, 4, 5, 6, 0] rfl (ih (v4 + (1 : Int32)) m4 _ h)
          · rw [if_neg c] at h
            refine J.aload_n 2 d_U_doesLack_65 rfl rfl ?_
            refine J.iload 1 d_U_doesLack_66 rfl ?_
            refine J.iload_n 5 d_U_doesLack_68 rfl rfl ?_
            obtain ⟨x7, m8, zm8, h⟩ := jbd_some h
            refine J.cVi Y_U_bearsMore (As := [.int x3, .int v3]) (rest := []) hG d_U_doesLack_69 mi_U_bearsMore mv_U_bearsMore lk_U_58 ⟨rfl, rfl, Nat.le_of_ble_eq_true rfl⟩ cq_83 cc_7 (c_U_bearsMore hG zm8) rfl (Nat.le_trans jcN (Nat.le_of_ble_eq_true rfl)) ?_
            refine J.if_eq 77 d_U_doesLack_72 rfl (fun c => ?_) (fun c => ?_)
            · rw [if_pos c] at h
              refine J.iinc 6 (v := (1 : Int32)) (lv := [(4, .int (v4 + (1 : Int32))), (6, .int (1 : Int32)), (5, .int x3), (0, jr G 83), (1, .int v1), (2, .int v2), (3, .int v3)]) d_U_doesLack_77 rfl ki_1 (by decide) rfl ?_
              refine J.goto 3 d_U_doesLack_80 rfl ?_
              exact J.sub (ls' := [(0, jr G 83), (1, .int v1), (2, .int v2), (3, .int v3), (4, .int (v4 + (1 : Int32)))]) [3, 4, 5, 6, 0] rfl (ih (v4 + (1 : Int32)) m8 _ h)
            · rw [if_neg c] at h
              exact J.sub (ls' := []) [] rfl (hk75  m8 _ h)
        · rw [if_pos c] at h
          refine J.aload_n 1 d_U_doesLack_39 rfl rfl ?_
          refine J.getF (n := 29) hG d_U_doesLack_40 fl_U_9 ck_83_0 rfl ?_
          refine J.getF (n := 31) hG d_U_doesLack_43 fl_U_25 ck_29_1 rfl ?_
          refine J.iload 0 d_U_doesLack_46 rfl ?_
          obtain ⟨x9, ex9, g, h⟩ := jld_some h
          refine J.il hG d_U_doesLack_48 g ex9 ?_
          refine J.iload_n 3 d_U_doesLack_49 rfl rfl ?_
          refine J.icmp_gt 57 d_U_doesLack_50 rfl (fun c => ?_) (fun c => ?_)
          · rw [if_pos c] at h
            refine J.iconst (v := (0 : Int32)) d_U_doesLack_57 ki_0 ?_
            refine J.istore (lv := [(6, .int (0 : Int32)), (5, .int x3), (0, jr G 83), (1, .int v1), (2, .int v2), (3, .int v3), (4, .int v4)]) d_U_doesLack_58 (by decide) rfl ?_
            refine J.iload 0 d_U_doesLack_60 rfl ?_
            refine J.if_eq 77 d_U_doesLack_62 rfl (fun c => ?_) (fun c => ?_)
            · rw [if_pos c] at h
              refine J.iinc 6 (v := (1 : Int32)) (lv := [(4, .int (v4 + (1 : Int32))), (6, .int (0 : Int32)), (5, .int x3), (0, jr G 83), (1, .int v1), (2, .int v2), (3, .int v3)]) d_U_doesLack_77 rfl ki_1 (by decide) rfl ?_
              refine J.goto 3 d_U_doesLack_80 rfl ?_
              exact J.sub (ls' := [(0, jr G 83), (1, .int v1), (2, .int v2), (3, .int v3), (4, .int (v4 + (1 : Int32)))]) [3, 4, 5, 6, 0] rfl (ih (v4 + (1 : Int32)) m4 _ h)
            · rw [if_neg c] at h
              refine J.aload_n 2 d_U_doesLack_65 rfl rfl ?_
              refine J.iload 1 d_U_doesLack_66 rfl ?_
              refine J.iload_n 5 d_U_doesLack_68 rfl rfl ?_
              obtain ⟨x10, m11, zm11, h⟩ := jbd_some h
              refine J.cVi Y_U_bearsMore (As := [.int x3, .int v3]) (rest := []) hG d_U_doesLack_69 mi_U_bearsMore mv_U_bearsMore lk_U_58 ⟨rfl, rfl, Nat.le_of_ble_eq_true rfl⟩ cq_83 cc_7 (c_U_bearsMore hG zm11) rfl (Nat.le_trans jcN (Nat.le_of_ble_eq_true rfl)) ?_
              refine J.nop (pc' := 72) rfl ?_
              refine J.if_eq 77 d_U_doesLack_72 rfl (fun c => ?_) (fun c => ?_)
              · rw [if_pos c] at h
                refine J.iinc 6 (v := (1 : Int32)) (lv := [(4, .int (v4 + (1 : Int32))), (6, .int (0 : Int32)), (5, .int x3), (0, jr G 83), (1, .int v1), (2, .int v2), (3, .int v3)]) d_U_doesLack_77 rfl ki_1 (by decide) rfl ?_
                refine J.goto 3 d_U_doesLack_80 rfl ?_
                exact J.sub (ls' := [(0, jr G 83), (1, .int v1), (2, .int v2), (3, .int v3), (4, .int (v4 + (1 : Int32)))]) [3, 4, 5, 6, 0] rfl (ih (v4 + (1 : Int32)) m11 _ h)
              · rw [if_neg c] at h
                exact J.sub (ls' := []) [] rfl (hk75  m11 _ h)
          · rw [if_neg c] at h
            refine J.nop (pc' := 53) rfl ?_
            refine J.iconst (v := (1 : Int32)) d_U_doesLack_53 ki_1 ?_
            refine J.goto 58 d_U_doesLack_54 rfl ?_
            refine J.istore (lv := [(6, .int (1 : Int32)), (5, .int x3), (0, jr G 83), (1, .int v1), (2, .int v2), (3, .int v3), (4, .int v4)]) d_U_doesLack_58 (by decide) rfl ?_
            refine J.iload 0 d_U_doesLack_60 rfl ?_
            refine J.if_eq 77 d_U_doesLack_62 rfl (fun c => ?_) (fun c => ?_)
            · rw [if_pos c] at h
              refine J.iinc 6 (v := (1 : Int32)) (lv := [(4, .int (v4 + (1 : Int32))), (6, .int (1 : Int32)), (5, .int x3), (0, jr G 83), (1, .int v1), (2, .int v2), (3, .int v3)]) d_U_doesLack_77 rfl ki_1 (by decide) rfl ?_
              refine J.goto 3 d_U_doesLack_80 rfl ?_
              exact J.sub (ls' := [(0, jr G 83), (1, .int v1), (2, .int v2), (3, .int v3), (4, .int (v4 + (1 : Int32)))]) [3, 4, 5, 6, 0] rfl (ih (v4 + (1 : Int32)) m4 _ h)
            · rw [if_neg c] at h
              refine J.aload_n 2 d_U_doesLack_65 rfl rfl ?_
              refine J.iload 1 d_U_doesLack_66 rfl ?_
              refine J.iload_n 5 d_U_doesLack_68 rfl rfl ?_
              obtain ⟨x12, m13, zm13, h⟩ := jbd_some h
              refine J.cVi Y_U_bearsMore (As := [.int x3, .int v3]) (rest := []) hG d_U_doesLack_69 mi_U_bearsMore mv_U_bearsMore lk_U_58 ⟨rfl, rfl, Nat.le_of_ble_eq_true rfl⟩ cq_83 cc_7 (c_U_bearsMore hG zm13) rfl (Nat.le_trans jcN (Nat.le_of_ble_eq_true rfl)) ?_
              refine J.if_eq 77 d_U_doesLack_72 rfl (fun c => ?_) (fun c => ?_)
              · rw [if_pos c] at h
                refine J.iinc 6 (v := (1 : Int32)) (lv := [(4, .int (v4 + (1 : Int32))), (6, .int (1 : Int32)), (5, .int x3), (0, jr G 83), (1, .int v1), (2, .int v2), (3, .int v3)]) d_U_doesLack_77 rfl ki_1 (by decide) rfl ?_
                refine J.goto 3 d_U_doesLack_80 rfl ?_
                exact J.sub (ls' := [(0, jr G 83), (1, .int v1), (2, .int v2), (3, .int v3), (4, .int (v4 + (1 : Int32)))]) [3, 4, 5, 6, 0] rfl (ih (v4 + (1 : Int32)) m13 _ h)
              · rw [if_neg c] at h
                exact J.sub (ls' := []) [] rfl (hk75  m13 _ h)
theorem c_U_doesLack {G : jG} (hG : jFul G) {v1 : Int32} {v2 : Int32} {v3 : Int32} {m : jMem} {r : (Int32 × jMem)} (h : f_U_doesLack v1 v2 v3 m = some r) : jCt G Y_U_doesLack [jr G 83, .int v1, .int v2, .int v3] m (jri r) := by
  refine jCt.ov (ls := [(0, jr G 83), (1, .int v1), (2, .int v2), (3, .int v3)]) mi_U_doesLack (jAvR (jAvI (jAvI (jAvI jAvN)))) (Nat.le_of_ble_eq_true rfl) ?_ ⟨rfl, rfl⟩
  unfold f_U_doesLack at h
  refine J.iconst (v := (0 : Int32)) d_U_doesLack_0 ki_0 ?_
  refine J.istore (lv := [(4, .int (0 : Int32)), (0, jr G 83), (1, .int v1), (2, .int v2), (3, .int v3)]) d_U_doesLack_1 (by decide) rfl ?_
  refine J.sub (ls' := [(0, jr G 83), (1, .int v1), (2, .int v2), (3, .int v3), (4, .int (0 : Int32))]) [1, 2, 3, 4, 0] rfl ?_
  refine jlp_U_doesLack_3 hG v1 v2 v3 _ _ ?_ ?_ _ (0 : Int32) m _ h
  · intro m14 r h
    refine J.iconst (v := (1 : Int32)) d_U_doesLack_75 ki_1 ?_
    cases h
    exact J.iret d_U_doesLack_76 rfl rfl rfl
  · intro m15 r h
    refine J.iconst (v := (0 : Int32)) d_U_doesLack_83 ki_0 ?_
    cases h
    exact J.iret d_U_doesLack_84 rfl rfl rfl

def f_U_goesBack (v1 : Int32) (v2 : Int32) (v3 : Int32) (m : jMem) : Option (Int32 × jMem) :=
  jbd (f_L_writtenBy v1 v2 m) fun x1 m2 =>
  jbd (f_L_ofWriter v1 x1 m2) fun x3 m4 =>
  if x3 = (-1 : Int32) then
    some ((0 : Int32), m4)
  else
    jbd (f_U_bearsMore x3 v3 m4) fun x5 m6 =>
    if x5 = 0 then
      some ((0 : Int32), m6)
    else
      some ((1 : Int32), m6)
theorem c_U_goesBack {G : jG} (hG : jFul G) {v1 : Int32} {v2 : Int32} {v3 : Int32} {m : jMem} {r : (Int32 × jMem)} (h : f_U_goesBack v1 v2 v3 m = some r) : jCt G Y_U_goesBack [jr G 83, .int v1, .int v2, .int v3] m (jri r) := by
  refine jCt.ov (ls := [(0, jr G 83), (1, .int v1), (2, .int v2), (3, .int v3)]) mi_U_goesBack (jAvR (jAvI (jAvI (jAvI jAvN)))) (Nat.le_of_ble_eq_true rfl) ?_ ⟨rfl, rfl⟩
  unfold f_U_goesBack at h
  refine J.aload_n 0 d_U_goesBack_0 rfl rfl ?_
  refine J.getF (n := 29) hG d_U_goesBack_1 fl_U_9 ck_83_0 rfl ?_
  refine J.iload_n 1 d_U_goesBack_4 rfl rfl ?_
  refine J.aload_n 0 d_U_goesBack_5 rfl rfl ?_
  refine J.getF (n := 29) hG d_U_goesBack_6 fl_U_9 ck_83_0 rfl ?_
  refine J.iload_n 1 d_U_goesBack_9 rfl rfl ?_
  refine J.iload_n 2 d_U_goesBack_10 rfl rfl ?_
  obtain ⟨x1, m2, zm2, h⟩ := jbd_some h
  refine J.cVi Y_L_writtenBy (As := [.int v1, .int v2]) (rest := [.int v1, jr G 29]) hG d_U_goesBack_11 mi_L_writtenBy mv_L_writtenBy lk_U_44 ⟨rfl, rfl, Nat.le_of_ble_eq_true rfl⟩ cq_29 cc_4 (c_L_writtenBy hG zm2) rfl (Nat.le_trans (jcI (jcR jcN)) (Nat.le_of_ble_eq_true rfl)) ?_
  refine J.nop (pc' := 14) rfl ?_
  obtain ⟨x3, m4, zm4, h⟩ := jbd_some h
  refine J.cVi Y_L_ofWriter (As := [.int v1, .int x1]) (rest := []) hG d_U_goesBack_14 mi_L_ofWriter mv_L_ofWriter lk_U_55 ⟨rfl, rfl, Nat.le_of_ble_eq_true rfl⟩ cq_29 cc_4 (c_L_ofWriter hG zm4) rfl (Nat.le_trans jcN (Nat.le_of_ble_eq_true rfl)) ?_
  refine J.istore (lv := [(4, .int x3), (0, jr G 83), (1, .int v1), (2, .int v2), (3, .int v3)]) d_U_goesBack_17 (by decide) rfl ?_
  refine J.iload 0 d_U_goesBack_19 rfl ?_
  refine J.iconst (v := (-1 : Int32)) d_U_goesBack_21 ki_m1 ?_
  refine J.icmp_eq 39 d_U_goesBack_22 rfl (fun c => ?_) (fun c => ?_)
  · rw [if_pos c] at h
    refine J.iconst (v := (0 : Int32)) d_U_goesBack_39 ki_0 ?_
    cases h
    exact J.iret d_U_goesBack_40 rfl rfl rfl
  · rw [if_neg c] at h
    refine J.aload_n 1 d_U_goesBack_25 rfl rfl ?_
    refine J.iload 0 d_U_goesBack_26 rfl ?_
    refine J.iload_n 4 d_U_goesBack_28 rfl rfl ?_
    refine J.nop (pc' := 29) rfl ?_
    obtain ⟨x5, m6, zm6, h⟩ := jbd_some h
    refine J.cVi Y_U_bearsMore (As := [.int x3, .int v3]) (rest := []) hG d_U_goesBack_29 mi_U_bearsMore mv_U_bearsMore lk_U_58 ⟨rfl, rfl, Nat.le_of_ble_eq_true rfl⟩ cq_83 cc_7 (c_U_bearsMore hG zm6) rfl (Nat.le_trans jcN (Nat.le_of_ble_eq_true rfl)) ?_
    refine J.if_eq 39 d_U_goesBack_32 rfl (fun c => ?_) (fun c => ?_)
    · rw [if_pos c] at h
      refine J.iconst (v := (0 : Int32)) d_U_goesBack_39 ki_0 ?_
      cases h
      exact J.iret d_U_goesBack_40 rfl rfl rfl
    · rw [if_neg c] at h
      refine J.iconst (v := (1 : Int32)) d_U_goesBack_35 ki_1 ?_
      refine J.goto 40 d_U_goesBack_36 rfl ?_
      cases h
      exact J.iret d_U_goesBack_40 rfl rfl rfl

def lp_U_isTooMuch_3 (v1 : Int32) (v2 : Int32) (v3 : Int32) (k61 : jMem → Option (Int32 × jMem)) (k69 : jMem → Option (Int32 × jMem)) : Nat → Int32 → jMem → Option (Int32 × jMem)
  | 0, _, _ => none
  | n + 1, v4, m =>
    if (6 : Int32) ≤ v4 then
      k69 m
    else
      jl3 53 v4 fun q1 =>
      jld 1 m q1 v1 fun x2 =>
      jbd (f_L_writtenBy v4 (v2 - x2) m) fun x3 m4 =>
      if v4 = v1 then
        jbd (f_C_truth (1 : Int32) m4) fun x9 m10 =>
        jbd (f_U_numberIn v3 v4 m10) fun x11 m12 =>
        if x11 ≤ (x3 + x9) then
          lp_U_isTooMuch_3 v1 v2 v3 k61 k69 n (v4 + (1 : Int32)) m12
        else
          k61 m12
      else
        jbd (f_C_truth (0 : Int32) m4) fun x5 m6 =>
        jbd (f_U_numberIn v3 v4 m6) fun x7 m8 =>
        if x7 ≤ (x3 + x5) then
          lp_U_isTooMuch_3 v1 v2 v3 k61 k69 n (v4 + (1 : Int32)) m8
        else
          k61 m8
def f_U_isTooMuch (v1 : Int32) (v2 : Int32) (v3 : Int32) (m : jMem) : Option (Int32 × jMem) :=
  lp_U_isTooMuch_3 v1 v2 v3 (fun m13 =>
    some ((1 : Int32), m13)) (fun m14 =>
    some ((0 : Int32), m14)) 5000 (0 : Int32) m
theorem jlp_U_isTooMuch_3 {G : jG} (hG : jFul G) (v1 : Int32) (v2 : Int32) (v3 : Int32) (k61 : jMem → Option (Int32 × jMem)) (k69 : jMem → Option (Int32 × jMem))
    (hk61 : ∀ (m : jMem) (r : (Int32 × jMem)), k61 m = some r → J G Y_U_isTooMuch 61 [] [] m (jri r))
    (hk69 : ∀ (m : jMem) (r : (Int32 × jMem)), k69 m = some r → J G Y_U_isTooMuch 69 [] [] m (jri r)) : ∀ (n : Nat) (v4 : Int32) (m : jMem) (r : (Int32 × jMem)), lp_U_isTooMuch_3 v1 v2 v3 k61 k69 n v4 m = some r → J G Y_U_isTooMuch 3 [(0, jr G 83), (1, .int v1), (2, .int v2), (3, .int v3), (4, .int v4)] [] m (jri r) := by
  intro n
  induction n with
  | zero => intro v4 m r h; unfold lp_U_isTooMuch_3 at h; cases h
  | succ n ih =>
    intro v4 m r h
    unfold lp_U_isTooMuch_3 at h
    refine J.iload 4 d_U_isTooMuch_3 rfl ?_
    refine J.bipush (v := (6 : Int32)) d_U_isTooMuch_5 kb_6 ?_
    refine J.icmp_ge 69 d_U_isTooMuch_7 rfl (fun c => ?_) (fun c => ?_)
    · rw [if_pos c] at h
      exact J.sub (ls' := []) [] rfl (hk69  m _ h)
    · rw [if_neg c] at h
      refine J.aload_n 0 d_U_isTooMuch_10 rfl rfl ?_
      refine J.getF (n := 29) hG d_U_isTooMuch_11 fl_U_9 ck_83_0 rfl ?_
      refine J.iload 4 d_U_isTooMuch_14 rfl ?_
      refine J.iload_n 2 d_U_isTooMuch_16 rfl rfl ?_
      refine J.aload_n 0 d_U_isTooMuch_17 rfl rfl ?_
      refine J.nop (pc' := 18) rfl ?_
      refine J.getF (n := 45) hG d_U_isTooMuch_18 fl_U_15 ck_83_1 rfl ?_
      refine J.getF (n := 53) hG d_U_isTooMuch_21 fl_U_28 ck_45_1 rfl ?_
      refine J.iload 4 d_U_isTooMuch_24 rfl ?_
      obtain ⟨q1, eq1, gq1, h⟩ := jl3_some h
      refine J.a3 hG d_U_isTooMuch_26 gq1 eq1 ?_
      refine J.iload_n 1 d_U_isTooMuch_27 rfl rfl ?_
      obtain ⟨x2, ex2, g, h⟩ := jld_some h
      refine J.il hG d_U_isTooMuch_28 g ex2 ?_
      refine J.isub d_U_isTooMuch_29 ?_
      obtain ⟨x3, m4, zm4, h⟩ := jbd_some h
      refine J.cVi Y_L_writtenBy (As := [.int v4, .int (v2 - x2)]) (rest := []) hG d_U_isTooMuch_30 mi_L_writtenBy mv_L_writtenBy lk_U_44 ⟨rfl, rfl, Nat.le_of_ble_eq_true rfl⟩ cq_29 cc_4 (c_L_writtenBy hG zm4) rfl (Nat.le_trans jcN (Nat.le_of_ble_eq_true rfl)) ?_
      refine J.nop (pc' := 33) rfl ?_
      refine J.iload 4 d_U_isTooMuch_33 rfl ?_
      refine J.iload_n 1 d_U_isTooMuch_35 rfl rfl ?_
      refine J.icmp_ne 43 d_U_isTooMuch_36 rfl (fun c => ?_) (fun c => ?_)
      · rw [if_neg c] at h
        refine J.iconst (v := (0 : Int32)) d_U_isTooMuch_43 ki_0 ?_
        obtain ⟨x5, m6, zm6, h⟩ := jbd_some h
        refine J.cSi Y_C_truth (As := [.int (0 : Int32)]) (rest := [.int x3]) d_U_isTooMuch_44 mi_C_truth ms_C_truth lk_U_48 ⟨rfl, rfl, Nat.le_of_ble_eq_true rfl⟩ (c_C_truth hG zm6) rfl (Nat.le_trans (jcI jcN) (Nat.le_of_ble_eq_true rfl)) ?_
        refine J.iadd d_U_isTooMuch_47 ?_
        refine J.istore (lv := [(5, .int (x3 + x5)), (0, jr G 83), (1, .int v1), (2, .int v2), (3, .int v3), (4, .int v4)]) d_U_isTooMuch_48 (by decide) rfl ?_
        refine J.iload_n 4 d_U_isTooMuch_50 rfl rfl ?_
        refine J.iload 5 d_U_isTooMuch_51 rfl ?_
        obtain ⟨x7, m8, zm8, h⟩ := jbd_some h
        refine J.cSi Y_U_numberIn (As := [.int v3, .int v4]) (rest := []) d_U_isTooMuch_53 mi_U_numberIn ms_U_numberIn lk_U_52 ⟨rfl, rfl, Nat.le_of_ble_eq_true rfl⟩ (c_U_numberIn hG zm8) rfl (Nat.le_trans jcN (Nat.le_of_ble_eq_true rfl)) ?_
        refine J.iload 0 d_U_isTooMuch_56 rfl ?_
        refine J.nop (pc' := 58) rfl ?_
        refine J.icmp_le 63 d_U_isTooMuch_58 rfl (fun c => ?_) (fun c => ?_)
        · rw [if_pos c] at h
          refine J.iinc 5 (v := (1 : Int32)) (lv := [(4, .int (v4 + (1 : Int32))), (5, .int (x3 + x5)), (0, jr G 83), (1, .int v1), (2, .int v2), (3, .int v3)]) d_U_isTooMuch_63 rfl ki_1 (by decide) rfl ?_
          refine J.goto 3 d_U_isTooMuch_66 rfl ?_
          exact J.sub (ls' := [(0, jr G 83), (1, .int v1), (2, .int v2), (3, .int v3), (4, .int (v4 + (1 : Int32)))]) [2, 3, 4, 5, 0] rfl (ih (v4 + (1 : Int32)) m8 _ h)
        · rw [if_neg c] at h
          exact J.sub (ls' := []) [] rfl (hk61  m8 _ h)
      · rw [if_pos c] at h
        refine J.iconst (v := (1 : Int32)) d_U_isTooMuch_39 ki_1 ?_
        refine J.goto 44 d_U_isTooMuch_40 rfl ?_
        obtain ⟨x9, m10, zm10, h⟩ := jbd_some h
        refine J.cSi Y_C_truth (As := [.int (1 : Int32)]) (rest := [.int x3]) d_U_isTooMuch_44 mi_C_truth ms_C_truth lk_U_48 ⟨rfl, rfl, Nat.le_of_ble_eq_true rfl⟩ (c_C_truth hG zm10) rfl (Nat.le_trans (jcI jcN) (Nat.le_of_ble_eq_true rfl)) ?_
        refine J.iadd d_U_isTooMuch_47 ?_
        refine J.istore (lv := [(5, .int (x3 + x9)), (0, jr G 83), (1, .int v1), (2, .int v2), (3, .int v3), (4, .int v4)]) d_U_isTooMuch_48 (by decide) rfl ?_
        refine J.iload_n 4 d_U_isTooMuch_50 rfl rfl ?_
        refine J.iload 5 d_U_isTooMuch_51 rfl ?_
        obtain ⟨x11, m12, zm12, h⟩ := jbd_some h
        refine J.cSi Y_U_numberIn (As := [.int v3, .int v4]) (rest := []) d_U_isTooMuch_53 mi_U_numberIn ms_U_numberIn lk_U_52 ⟨rfl, rfl, Nat.le_of_ble_eq_true rfl⟩ (c_U_numberIn hG zm12) rfl (Nat.le_trans jcN (Nat.le_of_ble_eq_true rfl)) ?_
        refine J.iload 0 d_U_isTooMuch_56 rfl ?_
        refine J.icmp_le 63 d_U_isTooMuch_58 rfl (fun c => ?_) (fun c => ?_)
        · rw [if_pos c] at h
          refine J.iinc 5 (v := (1 : Int32)) (lv := [(4, .int (v4 + (1 : Int32))), (5, .int (x3 + x9)), (0, jr G 83), (1, .int v1), (2, .int v2), (3, .int v3)]) d_U_isTooMuch_63 rfl ki_1 (by decide) rfl ?_
          refine J.goto 3 d_U_isTooMuch_66 rfl ?_
          exact J.sub (ls' := [(0, jr G 83), (1, .int v1), (2, .int v2), (3, .int v3), (4, .int (v4 + (1 : Int32)))]) [2, 3, 4, 5, 0] rfl (ih (v4 + (1 : Int32)) m12 _ h)
        · rw [if_neg c] at h
          exact J.sub (ls' := []) [] rfl (hk61  m12 _ h)
theorem c_U_isTooMuch {G : jG} (hG : jFul G) {v1 : Int32} {v2 : Int32} {v3 : Int32} {m : jMem} {r : (Int32 × jMem)} (h : f_U_isTooMuch v1 v2 v3 m = some r) : jCt G Y_U_isTooMuch [jr G 83, .int v1, .int v2, .int v3] m (jri r) := by
  refine jCt.ov (ls := [(0, jr G 83), (1, .int v1), (2, .int v2), (3, .int v3)]) mi_U_isTooMuch (jAvR (jAvI (jAvI (jAvI jAvN)))) (Nat.le_of_ble_eq_true rfl) ?_ ⟨rfl, rfl⟩
  unfold f_U_isTooMuch at h
  refine J.iconst (v := (0 : Int32)) d_U_isTooMuch_0 ki_0 ?_
  refine J.istore (lv := [(4, .int (0 : Int32)), (0, jr G 83), (1, .int v1), (2, .int v2), (3, .int v3)]) d_U_isTooMuch_1 (by decide) rfl ?_
  refine J.sub (ls' := [(0, jr G 83), (1, .int v1), (2, .int v2), (3, .int v3), (4, .int (0 : Int32))]) [1, 2, 3, 4, 0] rfl ?_
  refine jlp_U_isTooMuch_3 hG v1 v2 v3 _ _ ?_ ?_ _ (0 : Int32) m _ h
  · intro m13 r h
    refine J.iconst (v := (1 : Int32)) d_U_isTooMuch_61 ki_1 ?_
    cases h
    exact J.iret d_U_isTooMuch_62 rfl rfl rfl
  · intro m14 r h
    refine J.iconst (v := (0 : Int32)) d_U_isTooMuch_69 ki_0 ?_
    cases h
    exact J.iret d_U_isTooMuch_70 rfl rfl rfl

def f_U_verdict (v1 : Int32) (v2 : Int32) (v3 : Int32) (m : jMem) : Option (Int32 × jMem) :=
  jbd (f_U_isTooMuch v1 v2 v3 m) fun x1 m2 =>
  if x1 = 0 then
    jbd (f_U_doesLack v1 v2 v3 m2) fun x3 m4 =>
    if x3 = 0 then
      jbd (f_U_goesBack v1 v2 v3 m4) fun x5 m6 =>
      if x5 = 0 then
        some ((0 : Int32), m6)
      else
        some ((3 : Int32), m6)
    else
      some ((2 : Int32), m4)
  else
    some ((1 : Int32), m2)
theorem c_U_verdict {G : jG} (hG : jFul G) {v1 : Int32} {v2 : Int32} {v3 : Int32} {m : jMem} {r : (Int32 × jMem)} (h : f_U_verdict v1 v2 v3 m = some r) : jCt G Y_U_verdict [jr G 83, .int v1, .int v2, .int v3] m (jri r) := by
  refine jCt.ov (ls := [(0, jr G 83), (1, .int v1), (2, .int v2), (3, .int v3)]) mi_U_verdict (jAvR (jAvI (jAvI (jAvI jAvN)))) (Nat.le_of_ble_eq_true rfl) ?_ ⟨rfl, rfl⟩
  unfold f_U_verdict at h
  refine J.aload_n 0 d_U_verdict_0 rfl rfl ?_
  refine J.iload_n 1 d_U_verdict_1 rfl rfl ?_
  refine J.iload_n 2 d_U_verdict_2 rfl rfl ?_
  refine J.iload_n 3 d_U_verdict_3 rfl rfl ?_
  obtain ⟨x1, m2, zm2, h⟩ := jbd_some h
  refine J.cVi Y_U_isTooMuch (As := [.int v1, .int v2, .int v3]) (rest := []) hG d_U_verdict_4 mi_U_isTooMuch mv_U_isTooMuch lk_U_34 ⟨rfl, rfl, Nat.le_of_ble_eq_true rfl⟩ cq_83 cc_7 (c_U_isTooMuch hG zm2) rfl (Nat.le_trans jcN (Nat.le_of_ble_eq_true rfl)) ?_
  refine J.if_eq 12 d_U_verdict_7 rfl (fun c => ?_) (fun c => ?_)
  · rw [if_pos c] at h
    refine J.aload_n 0 d_U_verdict_12 rfl rfl ?_
    refine J.iload_n 1 d_U_verdict_13 rfl rfl ?_
    refine J.iload_n 2 d_U_verdict_14 rfl rfl ?_
    refine J.iload_n 3 d_U_verdict_15 rfl rfl ?_
    obtain ⟨x3, m4, zm4, h⟩ := jbd_some h
    refine J.cVi Y_U_doesLack (As := [.int v1, .int v2, .int v3]) (rest := []) hG d_U_verdict_16 mi_U_doesLack mv_U_doesLack lk_U_38 ⟨rfl, rfl, Nat.le_of_ble_eq_true rfl⟩ cq_83 cc_7 (c_U_doesLack hG zm4) rfl (Nat.le_trans jcN (Nat.le_of_ble_eq_true rfl)) ?_
    refine J.if_eq 24 d_U_verdict_19 rfl (fun c => ?_) (fun c => ?_)
    · rw [if_pos c] at h
      refine J.aload_n 0 d_U_verdict_24 rfl rfl ?_
      refine J.iload_n 1 d_U_verdict_25 rfl rfl ?_
      refine J.iload_n 2 d_U_verdict_26 rfl rfl ?_
      refine J.iload_n 3 d_U_verdict_27 rfl rfl ?_
      obtain ⟨x5, m6, zm6, h⟩ := jbd_some h
      refine J.cVi Y_U_goesBack (As := [.int v1, .int v2, .int v3]) (rest := []) hG d_U_verdict_28 mi_U_goesBack mv_U_goesBack lk_U_41 ⟨rfl, rfl, Nat.le_of_ble_eq_true rfl⟩ cq_83 cc_7 (c_U_goesBack hG zm6) rfl (Nat.le_trans jcN (Nat.le_of_ble_eq_true rfl)) ?_
      refine J.if_eq 38 d_U_verdict_31 rfl (fun c => ?_) (fun c => ?_)
      · rw [if_pos c] at h
        refine J.iconst (v := (0 : Int32)) d_U_verdict_38 ki_0 ?_
        cases h
        exact J.iret d_U_verdict_39 rfl (vp_nar_int _) rfl
      · rw [if_neg c] at h
        refine J.iconst (v := (3 : Int32)) d_U_verdict_34 ki_3 ?_
        refine J.goto 39 d_U_verdict_35 rfl ?_
        cases h
        exact J.iret d_U_verdict_39 rfl (vp_nar_int _) rfl
    · rw [if_neg c] at h
      refine J.iconst (v := (2 : Int32)) d_U_verdict_22 ki_2 ?_
      cases h
      exact J.iret d_U_verdict_23 rfl (vp_nar_int _) rfl
  · rw [if_neg c] at h
    refine J.iconst (v := (1 : Int32)) d_U_verdict_10 ki_1 ?_
    cases h
    exact J.iret d_U_verdict_11 rfl (vp_nar_int _) rfl

def lp_D_allHeld_4 (k25 : Int32 → jMem → Option (Int32 × jMem)) : Nat → Int32 → Int32 → jMem → Option (Int32 × jMem)
  | 0, _, _, _ => none
  | n + 1, v1, v2, m =>
    if (6 : Int32) ≤ v2 then
      k25 v1 m
    else
      jld 1 m 73 v2 fun x1 =>
      lp_D_allHeld_4 k25 n (v1 + x1) (v2 + (1 : Int32)) m
def f_D_allHeld (m : jMem) : Option (Int32 × jMem) :=
  lp_D_allHeld_4 (fun w3 m2 =>
    some (w3, m2)) 5000 (0 : Int32) (0 : Int32) m
theorem jlp_D_allHeld_4 {G : jG} (hG : jFul G) (k25 : Int32 → jMem → Option (Int32 × jMem))
    (hk25 : ∀ (v1 : Int32) (m : jMem) (r : (Int32 × jMem)), k25 v1 m = some r → J G Y_D_allHeld 25 [(1, .int v1)] [] m (jri r)) : ∀ (n : Nat) (v1 : Int32) (v2 : Int32) (m : jMem) (r : (Int32 × jMem)), lp_D_allHeld_4 k25 n v1 v2 m = some r → J G Y_D_allHeld 4 [(0, jr G 65), (1, .int v1), (2, .int v2)] [] m (jri r) := by
  intro n
  induction n with
  | zero => intro v1 v2 m r h; unfold lp_D_allHeld_4 at h; cases h
  | succ n ih =>
    intro v1 v2 m r h
    unfold lp_D_allHeld_4 at h
    refine J.iload_n 2 d_D_allHeld_4 rfl rfl ?_
    refine J.bipush (v := (6 : Int32)) d_D_allHeld_5 kb_6 ?_
    refine J.icmp_ge 25 d_D_allHeld_7 rfl (fun c => ?_) (fun c => ?_)
    · rw [if_pos c] at h
      exact J.sub (ls' := [(1, .int v1)]) [1] rfl (hk25 v1 m _ h)
    · rw [if_neg c] at h
      refine J.iload_n 1 d_D_allHeld_10 rfl rfl ?_
      refine J.aload_n 0 d_D_allHeld_11 rfl rfl ?_
      refine J.getF (n := 73) hG d_D_allHeld_12 fl_D_16 ck_65_1 rfl ?_
      refine J.iload_n 2 d_D_allHeld_15 rfl rfl ?_
      obtain ⟨x1, ex1, g, h⟩ := jld_some h
      refine J.il hG d_D_allHeld_16 g ex1 ?_
      refine J.nop (pc' := 17) rfl ?_
      refine J.iadd d_D_allHeld_17 ?_
      refine J.istore_n (lv := [(1, .int (v1 + x1)), (0, jr G 65), (2, .int v2)]) d_D_allHeld_18 rfl (by decide) rfl ?_
      refine J.iinc 2 (v := (1 : Int32)) (lv := [(2, .int (v2 + (1 : Int32))), (1, .int (v1 + x1)), (0, jr G 65)]) d_D_allHeld_19 rfl ki_1 (by decide) rfl ?_
      refine J.goto 4 d_D_allHeld_22 rfl ?_
      exact J.sub (ls' := [(0, jr G 65), (1, .int (v1 + x1)), (2, .int (v2 + (1 : Int32)))]) [2, 1, 0] rfl (ih (v1 + x1) (v2 + (1 : Int32)) m _ h)
theorem c_D_allHeld {G : jG} (hG : jFul G) {m : jMem} {r : (Int32 × jMem)} (h : f_D_allHeld m = some r) : jCt G Y_D_allHeld [jr G 65] m (jri r) := by
  refine jCt.ov (ls := [(0, jr G 65)]) mi_D_allHeld (jAvR jAvN) (Nat.le_of_ble_eq_true rfl) ?_ ⟨rfl, rfl⟩
  unfold f_D_allHeld at h
  refine J.iconst (v := (0 : Int32)) d_D_allHeld_0 ki_0 ?_
  refine J.istore_n (lv := [(1, .int (0 : Int32)), (0, jr G 65)]) d_D_allHeld_1 rfl (by decide) rfl ?_
  refine J.iconst (v := (0 : Int32)) d_D_allHeld_2 ki_0 ?_
  refine J.istore_n (lv := [(2, .int (0 : Int32)), (1, .int (0 : Int32)), (0, jr G 65)]) d_D_allHeld_3 rfl (by decide) rfl ?_
  refine J.sub (ls' := [(0, jr G 65), (1, .int (0 : Int32)), (2, .int (0 : Int32))]) [2, 1, 0] rfl ?_
  refine jlp_D_allHeld_4 hG _ ?_ _ (0 : Int32) (0 : Int32) m _ h
  intro w3 m2 r h
  refine J.iload_n 0 d_D_allHeld_25 rfl rfl ?_
  cases h
  exact J.iret d_D_allHeld_26 rfl (vp_nar_int _) rfl

def lp_D_allRead_4 (k28 : Int32 → jMem → Option (Int32 × jMem)) : Nat → Int32 → Int32 → jMem → Option (Int32 × jMem)
  | 0, _, _, _ => none
  | n + 1, v1, v2, m =>
    if (6 : Int32) ≤ v2 then
      k28 v1 m
    else
      jld 1 m 75 v2 fun x1 =>
      jbd (f_JI_bitCount x1 m) fun x2 m3 =>
      lp_D_allRead_4 k28 n (v1 + x2) (v2 + (1 : Int32)) m3
def f_D_allRead (m : jMem) : Option (Int32 × jMem) :=
  lp_D_allRead_4 (fun w5 m4 =>
    some (w5, m4)) 5000 (0 : Int32) (0 : Int32) m
theorem jlp_D_allRead_4 {G : jG} (hG : jFul G) (k28 : Int32 → jMem → Option (Int32 × jMem))
    (hk28 : ∀ (v1 : Int32) (m : jMem) (r : (Int32 × jMem)), k28 v1 m = some r → J G Y_D_allRead 28 [(1, .int v1)] [] m (jri r)) : ∀ (n : Nat) (v1 : Int32) (v2 : Int32) (m : jMem) (r : (Int32 × jMem)), lp_D_allRead_4 k28 n v1 v2 m = some r → J G Y_D_allRead 4 [(0, jr G 65), (1, .int v1), (2, .int v2)] [] m (jri r) := by
  intro n
  induction n with
  | zero => intro v1 v2 m r h; unfold lp_D_allRead_4 at h; cases h
  | succ n ih =>
    intro v1 v2 m r h
    unfold lp_D_allRead_4 at h
    refine J.iload_n 2 d_D_allRead_4 rfl rfl ?_
    refine J.bipush (v := (6 : Int32)) d_D_allRead_5 kb_6 ?_
    refine J.icmp_ge 28 d_D_allRead_7 rfl (fun c => ?_) (fun c => ?_)
    · rw [if_pos c] at h
      exact J.sub (ls' := [(1, .int v1)]) [1] rfl (hk28 v1 m _ h)
    · rw [if_neg c] at h
      refine J.iload_n 1 d_D_allRead_10 rfl rfl ?_
      refine J.aload_n 0 d_D_allRead_11 rfl rfl ?_
      refine J.getF (n := 75) hG d_D_allRead_12 fl_D_23 ck_65_3 rfl ?_
      refine J.iload_n 2 d_D_allRead_15 rfl rfl ?_
      obtain ⟨x1, ex1, g, h⟩ := jld_some h
      refine J.il hG d_D_allRead_16 g ex1 ?_
      refine J.nop (pc' := 17) rfl ?_
      obtain ⟨x2, m3, zm3, h⟩ := jbd_some h
      refine J.cSi Y_JI_bitCount (As := [.int x1]) (rest := [.int v1]) d_D_allRead_17 mi_JI_bitCount ms_JI_bitCount lk_D_44 ⟨rfl, rfl, Nat.le_of_ble_eq_true rfl⟩ (c_JI_bitCount hG zm3) rfl (Nat.le_trans (jcI jcN) (Nat.le_of_ble_eq_true rfl)) ?_
      refine J.iadd d_D_allRead_20 ?_
      refine J.istore_n (lv := [(1, .int (v1 + x2)), (0, jr G 65), (2, .int v2)]) d_D_allRead_21 rfl (by decide) rfl ?_
      refine J.iinc 2 (v := (1 : Int32)) (lv := [(2, .int (v2 + (1 : Int32))), (1, .int (v1 + x2)), (0, jr G 65)]) d_D_allRead_22 rfl ki_1 (by decide) rfl ?_
      refine J.goto 4 d_D_allRead_25 rfl ?_
      exact J.sub (ls' := [(0, jr G 65), (1, .int (v1 + x2)), (2, .int (v2 + (1 : Int32)))]) [2, 1, 0] rfl (ih (v1 + x2) (v2 + (1 : Int32)) m3 _ h)
theorem c_D_allRead {G : jG} (hG : jFul G) {m : jMem} {r : (Int32 × jMem)} (h : f_D_allRead m = some r) : jCt G Y_D_allRead [jr G 65] m (jri r) := by
  refine jCt.ov (ls := [(0, jr G 65)]) mi_D_allRead (jAvR jAvN) (Nat.le_of_ble_eq_true rfl) ?_ ⟨rfl, rfl⟩
  unfold f_D_allRead at h
  refine J.iconst (v := (0 : Int32)) d_D_allRead_0 ki_0 ?_
  refine J.istore_n (lv := [(1, .int (0 : Int32)), (0, jr G 65)]) d_D_allRead_1 rfl (by decide) rfl ?_
  refine J.iconst (v := (0 : Int32)) d_D_allRead_2 ki_0 ?_
  refine J.istore_n (lv := [(2, .int (0 : Int32)), (1, .int (0 : Int32)), (0, jr G 65)]) d_D_allRead_3 rfl (by decide) rfl ?_
  refine J.sub (ls' := [(0, jr G 65), (1, .int (0 : Int32)), (2, .int (0 : Int32))]) [2, 1, 0] rfl ?_
  refine jlp_D_allRead_4 hG _ ?_ _ (0 : Int32) (0 : Int32) m _ h
  intro w5 m4 r h
  refine J.iload_n 0 d_D_allRead_28 rfl rfl ?_
  cases h
  exact J.iret d_D_allRead_29 rfl (vp_nar_int _) rfl

def lp_P_howManyUnderWay_4 (k38 : Int32 → jMem → Option (Int32 × jMem)) : Nat → Int32 → Int32 → jMem → Option (Int32 × jMem)
  | 0, _, _, _ => none
  | n + 1, v1, v2, m =>
    if (m 45 10) ≤ v2 then
      k38 v1 m
    else
      jld 1 m 64 v2 fun x1 =>
      if x1 = 0 then
        jbd (f_C_truth (1 : Int32) m) fun x4 m5 =>
        lp_P_howManyUnderWay_4 k38 n (v1 + x4) (v2 + (1 : Int32)) m5
      else
        jbd (f_C_truth (0 : Int32) m) fun x2 m3 =>
        lp_P_howManyUnderWay_4 k38 n (v1 + x2) (v2 + (1 : Int32)) m3
def f_P_howManyUnderWay (m : jMem) : Option (Int32 × jMem) :=
  lp_P_howManyUnderWay_4 (fun w7 m6 =>
    some (w7, m6)) 5000 (0 : Int32) (0 : Int32) m
theorem jlp_P_howManyUnderWay_4 {G : jG} (hG : jFul G) (k38 : Int32 → jMem → Option (Int32 × jMem))
    (hk38 : ∀ (v1 : Int32) (m : jMem) (r : (Int32 × jMem)), k38 v1 m = some r → J G Y_P_howManyUnderWay 38 [(1, .int v1)] [] m (jri r)) : ∀ (n : Nat) (v1 : Int32) (v2 : Int32) (m : jMem) (r : (Int32 × jMem)), lp_P_howManyUnderWay_4 k38 n v1 v2 m = some r → J G Y_P_howManyUnderWay 4 [(0, jr G 45), (1, .int v1), (2, .int v2)] [] m (jri r) := by
  intro n
  induction n with
  | zero => intro v1 v2 m r h; unfold lp_P_howManyUnderWay_4 at h; cases h
  | succ n ih =>
    intro v1 v2 m r h
    unfold lp_P_howManyUnderWay_4 at h
    refine J.iload_n 2 d_P_howManyUnderWay_4 rfl rfl ?_
    refine J.aload_n 0 d_P_howManyUnderWay_5 rfl rfl ?_
    refine J.getI hG d_P_howManyUnderWay_6 fl_P_35 ck_45_10 ?_
    refine J.icmp_ge 38 d_P_howManyUnderWay_9 rfl (fun c => ?_) (fun c => ?_)
    · rw [if_pos c] at h
      exact J.sub (ls' := [(1, .int v1)]) [1] rfl (hk38 v1 m _ h)
    · rw [if_neg c] at h
      refine J.iload_n 1 d_P_howManyUnderWay_12 rfl rfl ?_
      refine J.aload_n 0 d_P_howManyUnderWay_13 rfl rfl ?_
      refine J.getF (n := 64) hG d_P_howManyUnderWay_14 fl_P_32 ck_45_9 rfl ?_
      refine J.iload_n 2 d_P_howManyUnderWay_17 rfl rfl ?_
      refine J.nop (pc' := 18) rfl ?_
      obtain ⟨x1, ex1, g, h⟩ := jld_some h
      refine J.il hG d_P_howManyUnderWay_18 g ex1 ?_
      refine J.if_ne 26 d_P_howManyUnderWay_19 rfl (fun c => ?_) (fun c => ?_)
      · rw [if_neg c] at h
        refine J.iconst (v := (0 : Int32)) d_P_howManyUnderWay_26 ki_0 ?_
        obtain ⟨x2, m3, zm3, h⟩ := jbd_some h
        refine J.cSi Y_C_truth (As := [.int (0 : Int32)]) (rest := [.int v1]) d_P_howManyUnderWay_27 mi_C_truth ms_C_truth lk_P_79 ⟨rfl, rfl, Nat.le_of_ble_eq_true rfl⟩ (c_C_truth hG zm3) rfl (Nat.le_trans (jcI jcN) (Nat.le_of_ble_eq_true rfl)) ?_
        refine J.iadd d_P_howManyUnderWay_30 ?_
        refine J.istore_n (lv := [(1, .int (v1 + x2)), (0, jr G 45), (2, .int v2)]) d_P_howManyUnderWay_31 rfl (by decide) rfl ?_
        refine J.iinc 2 (v := (1 : Int32)) (lv := [(2, .int (v2 + (1 : Int32))), (1, .int (v1 + x2)), (0, jr G 45)]) d_P_howManyUnderWay_32 rfl ki_1 (by decide) rfl ?_
        refine J.goto 4 d_P_howManyUnderWay_35 rfl ?_
        exact J.sub (ls' := [(0, jr G 45), (1, .int (v1 + x2)), (2, .int (v2 + (1 : Int32)))]) [2, 1, 0] rfl (ih (v1 + x2) (v2 + (1 : Int32)) m3 _ h)
      · rw [if_pos c] at h
        refine J.iconst (v := (1 : Int32)) d_P_howManyUnderWay_22 ki_1 ?_
        refine J.goto 27 d_P_howManyUnderWay_23 rfl ?_
        obtain ⟨x4, m5, zm5, h⟩ := jbd_some h
        refine J.cSi Y_C_truth (As := [.int (1 : Int32)]) (rest := [.int v1]) d_P_howManyUnderWay_27 mi_C_truth ms_C_truth lk_P_79 ⟨rfl, rfl, Nat.le_of_ble_eq_true rfl⟩ (c_C_truth hG zm5) rfl (Nat.le_trans (jcI jcN) (Nat.le_of_ble_eq_true rfl)) ?_
        refine J.iadd d_P_howManyUnderWay_30 ?_
        refine J.istore_n (lv := [(1, .int (v1 + x4)), (0, jr G 45), (2, .int v2)]) d_P_howManyUnderWay_31 rfl (by decide) rfl ?_
        refine J.iinc 2 (v := (1 : Int32)) (lv := [(2, .int (v2 + (1 : Int32))), (1, .int (v1 + x4)), (0, jr G 45)]) d_P_howManyUnderWay_32 rfl ki_1 (by decide) rfl ?_
        refine J.goto 4 d_P_howManyUnderWay_35 rfl ?_
        exact J.sub (ls' := [(0, jr G 45), (1, .int (v1 + x4)), (2, .int (v2 + (1 : Int32)))]) [2, 1, 0] rfl (ih (v1 + x4) (v2 + (1 : Int32)) m5 _ h)
theorem c_P_howManyUnderWay {G : jG} (hG : jFul G) {m : jMem} {r : (Int32 × jMem)} (h : f_P_howManyUnderWay m = some r) : jCt G Y_P_howManyUnderWay [jr G 45] m (jri r) := by
  refine jCt.ov (ls := [(0, jr G 45)]) mi_P_howManyUnderWay (jAvR jAvN) (Nat.le_of_ble_eq_true rfl) ?_ ⟨rfl, rfl⟩
  unfold f_P_howManyUnderWay at h
  refine J.iconst (v := (0 : Int32)) d_P_howManyUnderWay_0 ki_0 ?_
  refine J.istore_n (lv := [(1, .int (0 : Int32)), (0, jr G 45)]) d_P_howManyUnderWay_1 rfl (by decide) rfl ?_
  refine J.iconst (v := (0 : Int32)) d_P_howManyUnderWay_2 ki_0 ?_
  refine J.istore_n (lv := [(2, .int (0 : Int32)), (1, .int (0 : Int32)), (0, jr G 45)]) d_P_howManyUnderWay_3 rfl (by decide) rfl ?_
  refine J.sub (ls' := [(0, jr G 45), (1, .int (0 : Int32)), (2, .int (0 : Int32))]) [2, 1, 0] rfl ?_
  refine jlp_P_howManyUnderWay_4 hG _ ?_ _ (0 : Int32) (0 : Int32) m _ h
  intro w7 m6 r h
  refine J.iload_n 0 d_P_howManyUnderWay_38 rfl rfl ?_
  cases h
  exact J.iret d_P_howManyUnderWay_39 rfl (vp_nar_int _) rfl
