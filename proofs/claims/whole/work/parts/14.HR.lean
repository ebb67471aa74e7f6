def f_H_clear (hb : Nat) (m : jMem) : Option (Unit × jMem) :=
  jpu m hb 1 (0 : Int32) fun m1 =>
  jpu m1 hb 2 (0 : Int32) fun m2 =>
  jpu m2 hb 7 (0 : Int32) fun m3 =>
  jpu m3 hb 10 (0 : Int32) fun m4 =>
  jpu m4 hb 11 (0 : Int32) fun m5 =>
  some ((), m5)
theorem c_H_clear {G : jG} (hG : jFul G) {hb : Nat} (hh : jhok hb) {m : jMem} {r : (Unit × jMem)} (h : f_H_clear hb m = some r) : jCt G Y_H_clear [jr G hb] m (jrv r) := by
  refine jCt.ov (ls := [(0, jr G hb)]) mi_H_clear (jAvR jAvN) (Nat.le_of_ble_eq_true rfl) ?_ ⟨rfl, rfl⟩
  unfold f_H_clear at h
  refine J.aload_n 0 d_H_clear_0 rfl rfl ?_
  refine J.iconst (v := (0 : Int32)) d_H_clear_1 ki_0 ?_
  obtain ⟨m1, hm1, h⟩ := jpu_some h
  refine J.putI hG d_H_clear_2 fl_H_40 fp_1_1 (jhok_I hh 1 rfl) hm1 ?_
  refine J.aload_n 0 d_H_clear_5 rfl rfl ?_
  refine J.iconst (v := (0 : Int32)) d_H_clear_6 ki_0 ?_
  obtain ⟨m2, hm2, h⟩ := jpu_some h
  refine J.putI hG d_H_clear_7 fl_H_44 fp_1_2 (jhok_I hh 2 rfl) hm2 ?_
  refine J.aload_n 0 d_H_clear_10 rfl rfl ?_
  refine J.iconst (v := (0 : Int32)) d_H_clear_11 ki_0 ?_
  refine J.nop (pc' := 12) rfl ?_
  obtain ⟨m3, hm3, h⟩ := jpu_some h
  refine J.putI hG d_H_clear_12 fl_H_47 fp_1_7 (jhok_I hh 7 rfl) hm3 ?_
  refine J.aload_n 0 d_H_clear_15 rfl rfl ?_
  refine J.iconst (v := (0 : Int32)) d_H_clear_16 ki_0 ?_
  obtain ⟨m4, hm4, h⟩ := jpu_some h
  refine J.putI hG d_H_clear_17 fl_H_50 fp_1_10 (jhok_I hh 10 rfl) hm4 ?_
  refine J.aload_n 0 d_H_clear_20 rfl rfl ?_
  refine J.iconst (v := (0 : Int32)) d_H_clear_21 ki_0 ?_
  obtain ⟨m5, hm5, h⟩ := jpu_some h
  refine J.putI hG d_H_clear_22 fl_H_53 fp_1_11 (jhok_I hh 11 rfl) hm5 ?_
  cases h
  exact J.vret d_H_clear_25 rfl rfl

def f_R_fail (v1 : Int32) (m : jMem) : Option (Unit × jMem) :=
  jpu m 21 4 v1 fun m1 =>
  jld 1 m1 26 (m1 21 1) fun x2 =>
  jpu m1 21 5 x2 fun m3 =>
  some ((), m3)
theorem c_R_fail {G : jG} (hG : jFul G) {v1 : Int32} {m : jMem} {r : (Unit × jMem)} (h : f_R_fail v1 m = some r) : jCt G Y_R_fail [jr G 21, .int v1] m (jrv r) := by
  refine jCt.ov (ls := [(0, jr G 21), (1, .int v1)]) mi_R_fail (jAvR (jAvI jAvN)) (Nat.le_of_ble_eq_true rfl) ?_ ⟨rfl, rfl⟩
  unfold f_R_fail at h
  refine J.aload_n 0 d_R_fail_0 rfl rfl ?_
  refine J.iload_n 1 d_R_fail_1 rfl rfl ?_
  obtain ⟨m1, hm1, h⟩ := jpu_some h
  refine J.putI hG d_R_fail_2 fl_R_54 fp_2_4 ck_21_4 hm1 ?_
  refine J.aload_n 0 d_R_fail_5 rfl rfl ?_
  refine J.aload_n 0 d_R_fail_6 rfl rfl ?_
  refine J.getF (n := 24) hG d_R_fail_7 fl_R_37 ck_21_0 rfl ?_
  refine J.getF (n := 26) hG d_R_fail_10 fl_R_92 ck_24_3 rfl ?_
  refine J.aload_n 0 d_R_fail_13 rfl rfl ?_
  refine J.nop (pc' := 14) rfl ?_
  refine J.getI hG d_R_fail_14 fl_R_81 ck_21_1 ?_
  obtain ⟨x2, ex2, g, h⟩ := jld_some h
  refine J.il hG d_R_fail_17 g ex2 ?_
  obtain ⟨m3, hm3, h⟩ := jpu_some h
  refine J.putI hG d_R_fail_18 fl_R_20 fp_2_5 ck_21_5 hm3 ?_
  cases h
  exact J.vret d_R_fail_21 rfl rfl

def f_R_stepTo (v1 : Int32) (m : jMem) : Option (Unit × jMem) :=
  if v1 < 0 then
    some ((), m)
  else
    if (m 24 5) ≤ v1 then
      some ((), m)
    else
      jpu m 21 1 v1 fun m1 =>
      jl4 m1 25 v1 fun q2 =>
      if q2 = 0 then
        jpu m1 21 2 (Int32.ofNat 1001) fun m7 =>
        jld 1 m7 27 v1 fun x8 =>
        jpu m7 21 3 x8 fun m9 =>
        some ((), m9)
      else
        jgd (q2 < 2 ^ 31) (
          jpu m1 21 2 (Int32.ofNat q2) fun m3 =>
          jld 1 m3 27 v1 fun x5 =>
          jpu m3 21 3 x5 fun m6 =>
          some ((), m6))
theorem c_R_stepTo {G : jG} (hG : jFul G) {v1 : Int32} {m : jMem} {r : (Unit × jMem)} (h : f_R_stepTo v1 m = some r) : jCt G Y_R_stepTo [jr G 21, .int v1] m (jrv r) := by
  refine jCt.ov (ls := [(0, jr G 21), (1, .int v1)]) mi_R_stepTo (jAvR (jAvI jAvN)) (Nat.le_of_ble_eq_true rfl) ?_ ⟨rfl, rfl⟩
  unfold f_R_stepTo at h
  refine J.iload_n 1 d_R_stepTo_0 rfl rfl ?_
  refine J.if_lt 58 d_R_stepTo_1 rfl (fun c => ?_) (fun c => ?_)
  · rw [if_pos c] at h
    cases h
    exact J.vret d_R_stepTo_58 rfl rfl
  · rw [if_neg c] at h
    refine J.iload_n 1 d_R_stepTo_4 rfl rfl ?_
    refine J.aload_n 0 d_R_stepTo_5 rfl rfl ?_
    refine J.getF (n := 24) hG d_R_stepTo_6 fl_R_37 ck_21_0 rfl ?_
    refine J.getI hG d_R_stepTo_9 fl_R_60 ck_24_5 ?_
    refine J.icmp_ge 58 d_R_stepTo_12 rfl (fun c => ?_) (fun c => ?_)
    · rw [if_pos c] at h
      cases h
      exact J.vret d_R_stepTo_58 rfl rfl
    · rw [if_neg c] at h
      refine J.aload_n 0 d_R_stepTo_15 rfl rfl ?_
      refine J.nop (pc' := 16) rfl ?_
      refine J.iload_n 1 d_R_stepTo_16 rfl rfl ?_
      obtain ⟨m1, hm1, h⟩ := jpu_some h
      refine J.putI hG d_R_stepTo_17 fl_R_81 fp_2_1 ck_21_1 hm1 ?_
      refine J.aload_n 0 d_R_stepTo_20 rfl rfl ?_
      refine J.getF (n := 24) hG d_R_stepTo_21 fl_R_37 ck_21_0 rfl ?_
      refine J.getF (n := 25) hG d_R_stepTo_24 fl_R_84 ck_24_2 rfl ?_
      refine J.iload_n 1 d_R_stepTo_27 rfl rfl ?_
      obtain ⟨q2, eq2, g, h⟩ := jl4_some h
      refine J.a4 hG d_R_stepTo_28 g eq2 ?_
      refine J.astore_n (lv := [(2, jr G q2), (0, jr G 21), (1, .int v1)]) d_R_stepTo_29 rfl (by decide) rfl ?_
      refine J.nop (pc' := 30) rfl ?_
      refine J.aload_n 1 d_R_stepTo_30 rfl rfl ?_
      refine J.aload_n 0 d_R_stepTo_31 rfl rfl ?_
      refine J.ifnonnull 41 d_R_stepTo_32 rfl (fun c => ?_) (fun c => ?_)
      · rw [if_neg c] at h
        refine J.aload_n 0 d_R_stepTo_41 rfl rfl ?_
        obtain ⟨g4, h⟩ := jgd_some h
        obtain ⟨m3, hm3, h⟩ := jpu_some h
        refine J.putR hG d_R_stepTo_42 fl_R_15 fp_2_2 ck_21_2 g4 hm3 ?_
        refine J.aload_n 1 d_R_stepTo_45 rfl rfl ?_
        refine J.aload_n 1 d_R_stepTo_46 rfl rfl ?_
        refine J.getF (n := 24) hG d_R_stepTo_47 fl_R_37 ck_21_0 rfl ?_
        refine J.getF (n := 27) hG d_R_stepTo_50 fl_R_86 ck_24_4 rfl ?_
        refine J.iload_n 2 d_R_stepTo_53 rfl rfl ?_
        obtain ⟨x5, ex5, g, h⟩ := jld_some h
        refine J.il hG d_R_stepTo_54 g ex5 ?_
        refine J.nop (pc' := 55) rfl ?_
        obtain ⟨m6, hm6, h⟩ := jpu_some h
        refine J.putI hG d_R_stepTo_55 fl_R_90 fp_2_3 ck_21_3 hm6 ?_
        cases h
        exact J.vret d_R_stepTo_58 rfl rfl
      · rw [if_pos c] at h
        refine J.gets (i := 0) (nm := "END") d_R_stepTo_35 (by decide) rfl (jt_1 100 rfl rfl) ?_
        refine J.goto 42 d_R_stepTo_38 rfl ?_
        obtain ⟨m7, hm7, h⟩ := jpu_some h
        refine J.putR hG d_R_stepTo_42 fl_R_15 fp_2_2 ck_21_2 (by decide) hm7 ?_
        refine J.aload_n 1 d_R_stepTo_45 rfl rfl ?_
        refine J.aload_n 1 d_R_stepTo_46 rfl rfl ?_
        refine J.getF (n := 24) hG d_R_stepTo_47 fl_R_37 ck_21_0 rfl ?_
        refine J.getF (n := 27) hG d_R_stepTo_50 fl_R_86 ck_24_4 rfl ?_
        refine J.iload_n 2 d_R_stepTo_53 rfl rfl ?_
        obtain ⟨x8, ex8, g, h⟩ := jld_some h
        refine J.il hG d_R_stepTo_54 g ex8 ?_
        obtain ⟨m9, hm9, h⟩ := jpu_some h
        refine J.putI hG d_R_stepTo_55 fl_R_90 fp_2_3 ck_21_3 hm9 ?_
        refine J.nop (pc' := 58) rfl ?_
        cases h
        exact J.vret d_R_stepTo_58 rfl rfl

def f_H_addHabit (hb : Nat) (v1 : Int32) (v2 : Int32) (v3 : Int32) (m : jMem) : Option (Unit × jMem) :=
  if (m hb 7) < (8 : Int32) then
    jst 2 m (hb + 2) (m hb 7) (jbz v1) fun m1 =>
    jst 1 m1 (hb + 3) (m1 hb 7) v2 fun m2 =>
    jst 1 m2 (hb + 4) (m2 hb 7) v3 fun m3 =>
    jst 1 m3 (hb + 5) (m3 hb 7) (m3 hb 10) fun m4 =>
    jpu m4 hb 7 ((m4 hb 7) + (1 : Int32)) fun m5 =>
    jpu m5 hb 2 ((m5 hb 2) + (1 : Int32)) fun m6 =>
    some ((), m6)
  else
    some ((), m)
theorem c_H_addHabit {G : jG} (hG : jFul G) {hb : Nat} (hh : jhok hb) {v1 : Int32} {v2 : Int32} {v3 : Int32} {m : jMem} {r : (Unit × jMem)} (h : f_H_addHabit hb v1 v2 v3 m = some r) : jCt G Y_H_addHabit [jr G hb, .int v1, .int v2, .int v3] m (jrv r) := by
  refine jCt.ov (ls := [(0, jr G hb), (1, .int v1), (2, .int v2), (3, .int v3)]) mi_H_addHabit (jAvR (jAvI (jAvI (jAvI jAvN)))) (Nat.le_of_ble_eq_true rfl) ?_ ⟨rfl, rfl⟩
  unfold f_H_addHabit at h
  refine J.aload_n 0 d_H_addHabit_0 rfl rfl ?_
  refine J.getI hG d_H_addHabit_1 fl_H_47 (jhok_I hh 7 rfl) ?_
  refine J.bipush (v := (8 : Int32)) d_H_addHabit_4 kb_8 ?_
  refine J.icmp_lt 10 d_H_addHabit_6 rfl (fun c => ?_) (fun c => ?_)
  · rw [if_pos c] at h
    refine J.aload_n 0 d_H_addHabit_10 rfl rfl ?_
    refine J.getF (n := hb + 2) hG d_H_addHabit_11 fl_H_17 (jhok_F hh 3 rfl) (jhok_fx hh 3 2 rfl rfl) ?_
    refine J.aload_n 0 d_H_addHabit_14 rfl rfl ?_
    refine J.getI hG d_H_addHabit_15 fl_H_47 (jhok_I hh 7 rfl) ?_
    refine J.iload_n 1 d_H_addHabit_18 rfl rfl ?_
    obtain ⟨m1, hm1, g, h⟩ := jst_some h
    refine J.zs hG d_H_addHabit_19 g hm1 ?_
    refine J.aload_n 0 d_H_addHabit_20 rfl rfl ?_
    refine J.getF (n := hb + 3) hG d_H_addHabit_21 fl_H_21 (jhok_F hh 4 rfl) (jhok_fx hh 4 3 rfl rfl) ?_
    refine J.nop (pc' := 24) rfl ?_
    refine J.aload_n 0 d_H_addHabit_24 rfl rfl ?_
    refine J.getI hG d_H_addHabit_25 fl_H_47 (jhok_I hh 7 rfl) ?_
    refine J.iload_n 2 d_H_addHabit_28 rfl rfl ?_
    obtain ⟨m2, hm2, g, h⟩ := jst_some h
    refine J.is hG d_H_addHabit_29 g hm2 ?_
    refine J.aload_n 0 d_H_addHabit_30 rfl rfl ?_
    refine J.getF (n := hb + 4) hG d_H_addHabit_31 fl_H_25 (jhok_F hh 5 rfl) (jhok_fx hh 5 4 rfl rfl) ?_
    refine J.aload_n 0 d_H_addHabit_34 rfl rfl ?_
    refine J.getI hG d_H_addHabit_35 fl_H_47 (jhok_I hh 7 rfl) ?_
    refine J.nop (pc' := 38) rfl ?_
    refine J.iload_n 3 d_H_addHabit_38 rfl rfl ?_
    obtain ⟨m3, hm3, g, h⟩ := jst_some h
    refine J.is hG d_H_addHabit_39 g hm3 ?_
    refine J.aload_n 0 d_H_addHabit_40 rfl rfl ?_
    refine J.getF (n := hb + 5) hG d_H_addHabit_41 fl_H_28 (jhok_F hh 6 rfl) (jhok_fx hh 6 5 rfl rfl) ?_
    refine J.aload_n 0 d_H_addHabit_44 rfl rfl ?_
    refine J.getI hG d_H_addHabit_45 fl_H_47 (jhok_I hh 7 rfl) ?_
    refine J.aload_n 0 d_H_addHabit_48 rfl rfl ?_
    refine J.getI hG d_H_addHabit_49 fl_H_50 (jhok_I hh 10 rfl) ?_
    refine J.nop (pc' := 52) rfl ?_
    obtain ⟨m4, hm4, g, h⟩ := jst_some h
    refine J.is hG d_H_addHabit_52 g hm4 ?_
    refine J.aload_n 0 d_H_addHabit_53 rfl rfl ?_
    refine J.dup d_H_addHabit_54 (jr_cat _ _) ?_
    refine J.getI hG d_H_addHabit_55 fl_H_47 (jhok_I hh 7 rfl) ?_
    refine J.iconst (v := (1 : Int32)) d_H_addHabit_58 ki_1 ?_
    refine J.iadd d_H_addHabit_59 ?_
    obtain ⟨m5, hm5, h⟩ := jpu_some h
    refine J.putI hG d_H_addHabit_60 fl_H_47 fp_1_7 (jhok_I hh 7 rfl) hm5 ?_
    refine J.aload_n 0 d_H_addHabit_63 rfl rfl ?_
    refine J.nop (pc' := 64) rfl ?_
    refine J.dup d_H_addHabit_64 (jr_cat _ _) ?_
    refine J.getI hG d_H_addHabit_65 fl_H_44 (jhok_I hh 2 rfl) ?_
    refine J.iconst (v := (1 : Int32)) d_H_addHabit_68 ki_1 ?_
    refine J.iadd d_H_addHabit_69 ?_
    obtain ⟨m6, hm6, h⟩ := jpu_some h
    refine J.putI hG d_H_addHabit_70 fl_H_44 fp_1_2 (jhok_I hh 2 rfl) hm6 ?_
    cases h
    exact J.vret d_H_addHabit_73 rfl rfl
  · rw [if_neg c] at h
    cases h
    exact J.vret d_H_addHabit_9 rfl rfl

def lp_R_takeWriters_4 (v1 : Int32) (k91 : Int32 → jMem → Option (Int32 × jMem)) : Nat → Int32 → Int32 → jMem → Option (Int32 × jMem)
  | 0, _, _, _ => none
  | n + 1, v2, v3, m =>
    if (6 : Int32) < v3 then
      k91 v2 m
    else
      jgd (jok (m 21 2).toNatClampNeg ∧ jok 1003) (if (m 21 2).toNatClampNeg = 1003 then
        if (m 21 4) = 0 then
          if (m 21 3) < (6 : Int32) then
            jbd (f_C_isIn (v1 ||| v2) (m 21 3) m) fun x1 m2 =>
            if x1 = 0 then
              jbd (f_C_bit (m2 21 3) m2) fun x3 m4 =>
              jbd (f_R_stepTo ((m4 21 1) + (1 : Int32)) m4) fun u5 m6 =>
              lp_R_takeWriters_4 v1 k91 n (v2 ||| x3) (v3 + (1 : Int32)) m6
            else
              jbd (f_R_fail (3 : Int32) m2) fun u7 m8 =>
              lp_R_takeWriters_4 v1 k91 n v2 (v3 + (1 : Int32)) m8
          else
            jbd (f_R_fail (2 : Int32) m) fun u9 m10 =>
            lp_R_takeWriters_4 v1 k91 n v2 (v3 + (1 : Int32)) m10
        else
          k91 v2 m
      else
        k91 v2 m)
def f_R_takeWriters (v1 : Int32) (m : jMem) : Option (Int32 × jMem) :=
  lp_R_takeWriters_4 v1 (fun w12 m11 =>
    some (w12, m11)) 5000 (0 : Int32) (0 : Int32) m
theorem jlp_R_takeWriters_4 {G : jG} (hG : jFul G) (v1 : Int32) (k91 : Int32 → jMem → Option (Int32 × jMem))
    (hk91 : ∀ (v2 : Int32) (m : jMem) (r : (Int32 × jMem)), k91 v2 m = some r → J G Y_R_takeWriters 91 [(2, .int v2)] [] m (jri r)) : ∀ (n : Nat) (v2 : Int32) (v3 : Int32) (m : jMem) (r : (Int32 × jMem)), lp_R_takeWriters_4 v1 k91 n v2 v3 m = some r → J G Y_R_takeWriters 4 [(0, jr G 21), (1, .int v1), (2, .int v2), (3, .int v3)] [] m (jri r) := by
  intro n
  induction n with
  | zero => intro v2 v3 m r h; unfold lp_R_takeWriters_4 at h; cases h
  | succ n ih =>
    intro v2 v3 m r h
    unfold lp_R_takeWriters_4 at h
    refine J.iload_n 3 d_R_takeWriters_4 rfl rfl ?_
    refine J.bipush (v := (6 : Int32)) d_R_takeWriters_5 kb_6 ?_
    refine J.icmp_gt 91 d_R_takeWriters_7 rfl (fun c => ?_) (fun c => ?_)
    · rw [if_pos c] at h
      exact J.sub (ls' := [(2, .int v2)]) [2] rfl (hk91 v2 m _ h)
    · rw [if_neg c] at h
      refine J.aload_n 0 d_R_takeWriters_10 rfl rfl ?_
      refine J.getM hG d_R_takeWriters_11 fl_R_15 ck_21_2 ?_
      refine J.gets (i := 2) (nm := "NUMBER") d_R_takeWriters_14 (by decide) rfl (jt_3 94 rfl rfl) ?_
      obtain ⟨g, h⟩ := jgd_some h
      refine J.acmp_ne 91 d_R_takeWriters_17 rfl g.1 g.2 (fun c => ?_) (fun c => ?_)
      · rw [if_neg c] at h
        exact J.sub (ls' := [(2, .int v2)]) [2] rfl (hk91 v2 m _ h)
      · rw [if_pos c] at h
        refine J.aload_n 0 d_R_takeWriters_20 rfl rfl ?_
        refine J.nop (pc' := 21) rfl ?_
        refine J.getI hG d_R_takeWriters_21 fl_R_54 ck_21_4 ?_
        refine J.if_ne 91 d_R_takeWriters_24 rfl (fun c => ?_) (fun c => ?_)
        · rw [if_neg c] at h
          exact J.sub (ls' := [(2, .int v2)]) [2] rfl (hk91 v2 m _ h)
        · rw [if_pos c] at h
          refine J.aload_n 0 d_R_takeWriters_27 rfl rfl ?_
          refine J.getI hG d_R_takeWriters_28 fl_R_90 ck_21_3 ?_
          refine J.bipush (v := (6 : Int32)) d_R_takeWriters_31 kb_6 ?_
          refine J.icmp_lt 44 d_R_takeWriters_33 rfl (fun c => ?_) (fun c => ?_)
          · rw [if_pos c] at h
            refine J.iload_n 1 d_R_takeWriters_44 rfl rfl ?_
            refine J.iload_n 2 d_R_takeWriters_45 rfl rfl ?_
            refine J.ior d_R_takeWriters_46 ?_
            refine J.aload_n 0 d_R_takeWriters_47 rfl rfl ?_
            refine J.getI hG d_R_takeWriters_48 fl_R_90 ck_21_3 ?_
            obtain ⟨x1, m2, zm2, h⟩ := jbd_some h
            refine J.cSi Y_C_isIn (As := [.int (v1 ||| v2), .int (m 21 3)]) (rest := []) d_R_takeWriters_51 mi_C_isIn ms_C_isIn lk_R_133 ⟨rfl, rfl, Nat.le_of_ble_eq_true rfl⟩ (c_C_isIn hG zm2) rfl (Nat.le_trans jcN (Nat.le_of_ble_eq_true rfl)) ?_
            refine J.if_eq 65 d_R_takeWriters_54 rfl (fun c => ?_) (fun c => ?_)
            · rw [if_pos c] at h
              refine J.iload_n 2 d_R_takeWriters_65 rfl rfl ?_
              refine J.aload_n 0 d_R_takeWriters_66 rfl rfl ?_
              refine J.getI hG d_R_takeWriters_67 fl_R_90 ck_21_3 ?_
              obtain ⟨x3, m4, zm4, h⟩ := jbd_some h
              refine J.cSi Y_C_bit (As := [.int (m2 21 3)]) (rest := [.int v2]) d_R_takeWriters_70 mi_C_bit ms_C_bit lk_R_137 ⟨rfl, rfl, Nat.le_of_ble_eq_true rfl⟩ (c_C_bit hG zm4) rfl (Nat.le_trans (jcI jcN) (Nat.le_of_ble_eq_true rfl)) ?_
              refine J.ior d_R_takeWriters_73 ?_
              refine J.istore_n (lv := [(2, .int (v2 ||| x3)), (0, jr G 21), (1, .int v1), (3, .int v3)]) d_R_takeWriters_74 rfl (by decide) rfl ?_
              refine J.aload_n 1 d_R_takeWriters_75 rfl rfl ?_
              refine J.aload_n 1 d_R_takeWriters_76 rfl rfl ?_
              refine J.nop (pc' := 77) rfl ?_
              refine J.getI hG d_R_takeWriters_77 fl_R_81 ck_21_1 ?_
              refine J.iconst (v := (1 : Int32)) d_R_takeWriters_80 ki_1 ?_
              refine J.iadd d_R_takeWriters_81 ?_
              obtain ⟨u5, m6, zm6, h⟩ := jbd_some h
              refine J.cVv Y_R_stepTo (As := [.int ((m4 21 1) + (1 : Int32))]) (rest := []) hG d_R_takeWriters_82 mi_R_stepTo mv_R_stepTo lk_R_57 ⟨rfl, rfl, Nat.le_of_ble_eq_true rfl⟩ cq_21 cc_2 (c_R_stepTo hG zm6) rfl (Nat.le_trans jcN (Nat.le_of_ble_eq_true rfl)) ?_
              refine J.iinc 3 (v := (1 : Int32)) (lv := [(3, .int (v3 + (1 : Int32))), (2, .int (v2 ||| x3)), (0, jr G 21), (1, .int v1)]) d_R_takeWriters_85 rfl ki_1 (by decide) rfl ?_
              refine J.goto 4 d_R_takeWriters_88 rfl ?_
              exact J.sub (ls' := [(0, jr G 21), (1, .int v1), (2, .int (v2 ||| x3)), (3, .int (v3 + (1 : Int32)))]) [2, 3, 1, 0] rfl (ih (v2 ||| x3) (v3 + (1 : Int32)) m6 _ h)
            · rw [if_neg c] at h
              refine J.aload_n 0 d_R_takeWriters_57 rfl rfl ?_
              refine J.nop (pc' := 58) rfl ?_
              refine J.iconst (v := (3 : Int32)) d_R_takeWriters_58 ki_3 ?_
              obtain ⟨u7, m8, zm8, h⟩ := jbd_some h
              refine J.cVv Y_R_fail (As := [.int (3 : Int32)]) (rest := []) hG d_R_takeWriters_59 mi_R_fail mv_R_fail lk_R_78 ⟨rfl, rfl, Nat.le_of_ble_eq_true rfl⟩ cq_21 cc_2 (c_R_fail hG zm8) rfl (Nat.le_trans jcN (Nat.le_of_ble_eq_true rfl)) ?_
              refine J.goto 85 d_R_takeWriters_62 rfl ?_
              refine J.iinc 3 (v := (1 : Int32)) (lv := [(3, .int (v3 + (1 : Int32))), (0, jr G 21), (1, .int v1), (2, .int v2)]) d_R_takeWriters_85 rfl ki_1 (by decide) rfl ?_
              refine J.goto 4 d_R_takeWriters_88 rfl ?_
              exact J.sub (ls' := [(0, jr G 21), (1, .int v1), (2, .int v2), (3, .int (v3 + (1 : Int32)))]) [1, 2, 3, 0] rfl (ih v2 (v3 + (1 : Int32)) m8 _ h)
          · rw [if_neg c] at h
            refine J.aload_n 0 d_R_takeWriters_36 rfl rfl ?_
            refine J.iconst (v := (2 : Int32)) d_R_takeWriters_37 ki_2 ?_
            refine J.nop (pc' := 38) rfl ?_
            obtain ⟨u9, m10, zm10, h⟩ := jbd_some h
            refine J.cVv Y_R_fail (As := [.int (2 : Int32)]) (rest := []) hG d_R_takeWriters_38 mi_R_fail mv_R_fail lk_R_78 ⟨rfl, rfl, Nat.le_of_ble_eq_true rfl⟩ cq_21 cc_2 (c_R_fail hG zm10) rfl (Nat.le_trans jcN (Nat.le_of_ble_eq_true rfl)) ?_
            refine J.goto 85 d_R_takeWriters_41 rfl ?_
            refine J.iinc 3 (v := (1 : Int32)) (lv := [(3, .int (v3 + (1 : Int32))), (0, jr G 21), (1, .int v1), (2, .int v2)]) d_R_takeWriters_85 rfl ki_1 (by decide) rfl ?_
            refine J.goto 4 d_R_takeWriters_88 rfl ?_
            exact J.sub (ls' := [(0, jr G 21), (1, .int v1), (2, .int v2), (3, .int (v3 + (1 : Int32)))]) [1, 2, 3, 0] rfl (ih v2 (v3 + (1 : Int32)) m10 _ h)
theorem c_R_takeWriters {G : jG} (hG : jFul G) {v1 : Int32} {m : jMem} {r : (Int32 × jMem)} (h : f_R_takeWriters v1 m = some r) : jCt G Y_R_takeWriters [jr G 21, .int v1] m (jri r) := by
  refine jCt.ov (ls := [(0, jr G 21), (1, .int v1)]) mi_R_takeWriters (jAvR (jAvI jAvN)) (Nat.le_of_ble_eq_true rfl) ?_ ⟨rfl, rfl⟩
  unfold f_R_takeWriters at h
  refine J.iconst (v := (0 : Int32)) d_R_takeWriters_0 ki_0 ?_
  refine J.istore_n (lv := [(2, .int (0 : Int32)), (0, jr G 21), (1, .int v1)]) d_R_takeWriters_1 rfl (by decide) rfl ?_
  refine J.iconst (v := (0 : Int32)) d_R_takeWriters_2 ki_0 ?_
  refine J.istore_n (lv := [(3, .int (0 : Int32)), (2, .int (0 : Int32)), (0, jr G 21), (1, .int v1)]) d_R_takeWriters_3 rfl (by decide) rfl ?_
  refine J.sub (ls' := [(0, jr G 21), (1, .int v1), (2, .int (0 : Int32)), (3, .int (0 : Int32))]) [2, 3, 1, 0] rfl ?_
  refine jlp_R_takeWriters_4 hG v1 _ ?_ _ (0 : Int32) (0 : Int32) m _ h
  intro w12 m11 r h
  refine J.iload_n 0 d_R_takeWriters_91 rfl rfl ?_
  cases h
  exact J.iret d_R_takeWriters_92 rfl (vp_nar_int _) rfl

def f_R_takeBy (m : jMem) : Option (Int32 × jMem) :=
  jgd (jok (m 21 2).toNatClampNeg ∧ jok 1010) (if (m 21 2).toNatClampNeg = 1010 then
    jbd (f_R_stepTo ((m 21 1) + (1 : Int32)) m) fun u1 m2 =>
    jgd (jok (m2 21 2).toNatClampNeg ∧ jok 1003) (if (m2 21 2).toNatClampNeg = 1003 then
      jbd (f_R_takeWriters (0 : Int32) m2) fun x3 m4 =>
      some (x3, m4)
    else
      jbd (f_R_fail (1 : Int32) m2) fun u5 m6 =>
      some ((0 : Int32), m6))
  else
    some ((0 : Int32), m))
theorem c_R_takeBy {G : jG} (hG : jFul G) {m : jMem} {r : (Int32 × jMem)} (h : f_R_takeBy m = some r) : jCt G Y_R_takeBy [jr G 21] m (jri r) := by
  refine jCt.ov (ls := [(0, jr G 21)]) mi_R_takeBy (jAvR jAvN) (Nat.le_of_ble_eq_true rfl) ?_ ⟨rfl, rfl⟩
  unfold f_R_takeBy at h
  refine J.aload_n 0 d_R_takeBy_0 rfl rfl ?_
  refine J.getM hG d_R_takeBy_1 fl_R_15 ck_21_2 ?_
  refine J.gets (i := 9) (nm := "BY") d_R_takeBy_4 (by decide) rfl (jt_3 162 rfl rfl) ?_
  obtain ⟨g, h⟩ := jgd_some h
  refine J.acmp_eq 12 d_R_takeBy_7 rfl g.1 g.2 (fun c => ?_) (fun c => ?_)
  · rw [if_pos c] at h
    refine J.aload_n 0 d_R_takeBy_12 rfl rfl ?_
    refine J.aload_n 0 d_R_takeBy_13 rfl rfl ?_
    refine J.getI hG d_R_takeBy_14 fl_R_81 ck_21_1 ?_
    refine J.iconst (v := (1 : Int32)) d_R_takeBy_17 ki_1 ?_
    refine J.iadd d_R_takeBy_18 ?_
    obtain ⟨u1, m2, zm2, h⟩ := jbd_some h
    refine J.cVv Y_R_stepTo (As := [.int ((m 21 1) + (1 : Int32))]) (rest := []) hG d_R_takeBy_19 mi_R_stepTo mv_R_stepTo lk_R_57 ⟨rfl, rfl, Nat.le_of_ble_eq_true rfl⟩ cq_21 cc_2 (c_R_stepTo hG zm2) rfl (Nat.le_trans jcN (Nat.le_of_ble_eq_true rfl)) ?_
    refine J.aload_n 0 d_R_takeBy_22 rfl rfl ?_
    refine J.getM hG d_R_takeBy_23 fl_R_15 ck_21_2 ?_
    refine J.nop (pc' := 26) rfl ?_
    refine J.gets (i := 2) (nm := "NUMBER") d_R_takeBy_26 (by decide) rfl (jt_3 94 rfl rfl) ?_
    obtain ⟨g, h⟩ := jgd_some h
    refine J.acmp_eq 39 d_R_takeBy_29 rfl g.1 g.2 (fun c => ?_) (fun c => ?_)
    · rw [if_pos c] at h
      refine J.aload_n 0 d_R_takeBy_39 rfl rfl ?_
      refine J.iconst (v := (0 : Int32)) d_R_takeBy_40 ki_0 ?_
      obtain ⟨x3, m4, zm4, h⟩ := jbd_some h
      refine J.cVi Y_R_takeWriters (As := [.int (0 : Int32)]) (rest := []) hG d_R_takeBy_41 mi_R_takeWriters mv_R_takeWriters lk_R_101 ⟨rfl, rfl, Nat.le_of_ble_eq_true rfl⟩ cq_21 cc_2 (c_R_takeWriters hG zm4) rfl (Nat.le_trans jcN (Nat.le_of_ble_eq_true rfl)) ?_
      cases h
      exact J.iret d_R_takeBy_44 rfl (vp_nar_int _) rfl
    · rw [if_neg c] at h
      refine J.aload_n 0 d_R_takeBy_32 rfl rfl ?_
      refine J.iconst (v := (1 : Int32)) d_R_takeBy_33 ki_1 ?_
      obtain ⟨u5, m6, zm6, h⟩ := jbd_some h
      refine J.cVv Y_R_fail (As := [.int (1 : Int32)]) (rest := []) hG d_R_takeBy_34 mi_R_fail mv_R_fail lk_R_78 ⟨rfl, rfl, Nat.le_of_ble_eq_true rfl⟩ cq_21 cc_2 (c_R_fail hG zm6) rfl (Nat.le_trans jcN (Nat.le_of_ble_eq_true rfl)) ?_
      refine J.iconst (v := (0 : Int32)) d_R_takeBy_37 ki_0 ?_
      cases h
      exact J.iret d_R_takeBy_38 rfl (vp_nar_int _) rfl
  · rw [if_neg c] at h
    refine J.iconst (v := (0 : Int32)) d_R_takeBy_10 ki_0 ?_
    cases h
    exact J.iret d_R_takeBy_11 rfl (vp_nar_int _) rfl

def f_H_addKnot (hb : Nat) (v1 : Nat) (v2 : Int32) (m : jMem) : Option (Unit × jMem) :=
  if (m hb 10) < (64 : Int32) then
    jgd (jtk v1) (jst 4 m (hb + 6) (m hb 10) (Int32.ofNat v1) fun m1 =>
    jst 1 m1 (hb + 7) (m1 hb 10) v2 fun m2 =>
    jpu m2 hb 10 ((m2 hb 10) + (1 : Int32)) fun m3 =>
    some ((), m3))
  else
    some ((), m)
theorem c_H_addKnot {G : jG} (hG : jFul G) {hb : Nat} (hh : jhok hb) {v1 : Nat} {v2 : Int32} {m : jMem} {r : (Unit × jMem)} (h : f_H_addKnot hb v1 v2 m = some r) : jCt G Y_H_addKnot [jr G hb, jr G v1, .int v2] m (jrv r) := by
  refine jCt.ov (ls := [(0, jr G hb), (1, jr G v1), (2, .int v2)]) mi_H_addKnot (jAvR (jAvR (jAvI jAvN))) (Nat.le_of_ble_eq_true rfl) ?_ ⟨rfl, rfl⟩
  unfold f_H_addKnot at h
  refine J.aload_n 0 d_H_addKnot_0 rfl rfl ?_
  refine J.getI hG d_H_addKnot_1 fl_H_50 (jhok_I hh 10 rfl) ?_
  refine J.bipush (v := (64 : Int32)) d_H_addKnot_4 kb_64 ?_
  refine J.icmp_lt 10 d_H_addKnot_6 rfl (fun c => ?_) (fun c => ?_)
  · rw [if_pos c] at h
    refine J.aload_n 0 d_H_addKnot_10 rfl rfl ?_
    refine J.getF (n := hb + 6) hG d_H_addKnot_11 fl_H_31 (jhok_F hh 8 rfl) (jhok_fx hh 8 6 rfl rfl) ?_
    refine J.aload_n 0 d_H_addKnot_14 rfl rfl ?_
    refine J.getI hG d_H_addKnot_15 fl_H_50 (jhok_I hh 10 rfl) ?_
    refine J.aload_n 1 d_H_addKnot_18 rfl rfl ?_
    obtain ⟨gt, h⟩ := jgd_some h
    obtain ⟨m1, hm1, g, h⟩ := jst_some h
    refine J.s4 hG d_H_addKnot_19 g gt hm1 ?_
    refine J.aload_n 0 d_H_addKnot_20 rfl rfl ?_
    refine J.getF (n := hb + 7) hG d_H_addKnot_21 fl_H_34 (jhok_F hh 9 rfl) (jhok_fx hh 9 7 rfl rfl) ?_
    refine J.nop (pc' := 24) rfl ?_
    refine J.aload_n 0 d_H_addKnot_24 rfl rfl ?_
    refine J.getI hG d_H_addKnot_25 fl_H_50 (jhok_I hh 10 rfl) ?_
    refine J.iload_n 2 d_H_addKnot_28 rfl rfl ?_
    obtain ⟨m2, hm2, g, h⟩ := jst_some h
    refine J.is hG d_H_addKnot_29 g hm2 ?_
    refine J.aload_n 0 d_H_addKnot_30 rfl rfl ?_
    refine J.dup d_H_addKnot_31 (jr_cat _ _) ?_
    refine J.getI hG d_H_addKnot_32 fl_H_50 (jhok_I hh 10 rfl) ?_
    refine J.iconst (v := (1 : Int32)) d_H_addKnot_35 ki_1 ?_
    refine J.nop (pc' := 36) rfl ?_
    refine J.iadd d_H_addKnot_36 ?_
    obtain ⟨m3, hm3, h⟩ := jpu_some h
    refine J.putI hG d_H_addKnot_37 fl_H_50 fp_1_10 (jhok_I hh 10 rfl) hm3 ?_
    cases h
    exact J.vret d_H_addKnot_40 rfl rfl
  · rw [if_neg c] at h
    cases h
    exact J.vret d_H_addKnot_9 rfl rfl

def lp_R_settle_5 (v1 : Int32) (k47 : jMem → Option (Unit × jMem)) (k73 : jMem → Option (Unit × jMem)) : Nat → Int32 → jMem → Option (Unit × jMem)
  | 0, _, _ => none
  | n + 1, v2, m =>
    if v2 ≤ 0 then
      k73 m
    else
      if (m 21 8) ≤ 0 then
        k73 m
      else
        jl4 m 22 ((m 21 8) - (1 : Int32)) fun q1 =>
        if q1 = 0 then
          k47 m
        else
          jgd (jok q1 ∧ jok 1005) (if q1 = 1005 then
            k47 m
          else
            jgd (jtk q1) (
              jlt (jtkR q1) fun x2 =>
              if v1 ≤ x2 then
                jgd (jhok (m 21 6).toNatClampNeg) (
                  jbd (f_H_addKnot (m 21 6).toNatClampNeg q1 (0 : Int32) m) fun u3 m4 =>
                  jpu m4 21 8 ((m4 21 8) - (1 : Int32)) fun m6 =>
                  lp_R_settle_5 v1 k47 k73 n (v2 + (-1 : Int32)) m6)
              else
                k47 m))
def f_R_settle (v1 : Int32) (m : jMem) : Option (Unit × jMem) :=
  lp_R_settle_5 v1 (fun m7 =>
    some ((), m7)) (fun m8 =>
    some ((), m8)) 5000 (m 21 8) m
theorem jlp_R_settle_5 {G : jG} (hG : jFul G) (v1 : Int32) (k47 : jMem → Option (Unit × jMem)) (k73 : jMem → Option (Unit × jMem))
    (hk47 : ∀ (m : jMem) (r : (Unit × jMem)), k47 m = some r → J G Y_R_settle 47 [] [] m (jrv r))
    (hk73 : ∀ (m : jMem) (r : (Unit × jMem)), k73 m = some r → J G Y_R_settle 73 [] [] m (jrv r)) : ∀ (n : Nat) (v2 : Int32) (m : jMem) (r : (Unit × jMem)), lp_R_settle_5 v1 k47 k73 n v2 m = some r → J G Y_R_settle 5 [(0, jr G 21), (1, .int v1), (2, .int v2)] [] m (jrv r) := by
  intro n
  induction n with
  | zero => intro v2 m r h; unfold lp_R_settle_5 at h; cases h
  | succ n ih =>
    intro v2 m r h
    unfold lp_R_settle_5 at h
    refine J.iload_n 2 d_R_settle_5 rfl rfl ?_
    refine J.if_le 73 d_R_settle_6 rfl (fun c => ?_) (fun c => ?_)
    · rw [if_pos c] at h
      exact J.sub (ls' := []) [] rfl (hk73  m _ h)
    · rw [if_neg c] at h
      refine J.aload_n 0 d_R_settle_9 rfl rfl ?_
      refine J.getI hG d_R_settle_10 fl_R_140 ck_21_8 ?_
      refine J.if_le 73 d_R_settle_13 rfl (fun c => ?_) (fun c => ?_)
      · rw [if_pos c] at h
        exact J.sub (ls' := []) [] rfl (hk73  m _ h)
      · rw [if_neg c] at h
        refine J.aload_n 0 d_R_settle_16 rfl rfl ?_
        refine J.getF (n := 22) hG d_R_settle_17 fl_R_24 ck_21_7 rfl ?_
        refine J.aload_n 0 d_R_settle_20 rfl rfl ?_
        refine J.nop (pc' := 21) rfl ?_
        refine J.getI hG d_R_settle_21 fl_R_140 ck_21_8 ?_
        refine J.iconst (v := (1 : Int32)) d_R_settle_24 ki_1 ?_
        refine J.isub d_R_settle_25 ?_
        obtain ⟨q1, eq1, g, h⟩ := jl4_some h
        refine J.a4 hG d_R_settle_26 g eq1 ?_
        refine J.astore_n (lv := [(3, jr G q1), (0, jr G 21), (1, .int v1), (2, .int v2)]) d_R_settle_27 rfl (by decide) rfl ?_
        refine J.aload_n 0 d_R_settle_28 rfl rfl ?_
        refine J.ifnull 47 d_R_settle_29 rfl (fun c => ?_) (fun c => ?_)
        · rw [if_pos c] at h
          exact J.sub (ls' := []) [] rfl (hk47  m _ h)
        · rw [if_neg c] at h
          refine J.aload_n 0 d_R_settle_32 rfl rfl ?_
          refine J.nop (pc' := 33) rfl ?_
          refine J.gets (i := 4) (nm := "OPEN") d_R_settle_33 (by decide) rfl (jt_3 128 rfl rfl) ?_
          obtain ⟨g, h⟩ := jgd_some h
          refine J.acmp_eq 47 d_R_settle_36 rfl g.1 g.2 (fun c => ?_) (fun c => ?_)
          · rw [if_pos c] at h
            exact J.sub (ls' := []) [] rfl (hk47  m _ h)
          · rw [if_neg c] at h
            refine J.aload_n 0 d_R_settle_39 rfl rfl ?_
            obtain ⟨g, h⟩ := jgd_some h
            obtain ⟨x2, ex2, h⟩ := jlt_some h
            refine J.gkR d_R_settle_40 g (Or.inr ⟨"CitingLetters", jn_8 228 rfl rfl⟩) ex2 ?_
            refine J.iload_n 2 d_R_settle_43 rfl rfl ?_
            refine J.icmp_ge 48 d_R_settle_44 rfl (fun c => ?_) (fun c => ?_)
            · rw [if_pos c] at h
              refine J.aload_n 1 d_R_settle_48 rfl rfl ?_
              refine J.getM hG d_R_settle_49 fl_R_41 ck_21_6 ?_
              refine J.aload_n 0 d_R_settle_52 rfl rfl ?_
              refine J.iconst (v := (0 : Int32)) d_R_settle_53 ki_0 ?_
              obtain ⟨g5, h⟩ := jgd_some h
              obtain ⟨u3, m4, zm4, h⟩ := jbd_some h
              refine J.cVv Y_H_addKnot (As := [jr G q1, .int (0 : Int32)]) (rest := []) hG d_R_settle_54 mi_H_addKnot mv_H_addKnot lk_R_171 ⟨rfl, rfl, Nat.le_of_ble_eq_true rfl⟩ (jhok_q g5) cc_1 (c_H_addKnot hG g5 zm4) rfl (Nat.le_trans jcN (Nat.le_of_ble_eq_true rfl)) ?_
              refine J.aload_n 1 d_R_settle_57 rfl rfl ?_
              refine J.dup d_R_settle_58 (jr_cat _ _) ?_
              refine J.getI hG d_R_settle_59 fl_R_140 ck_21_8 ?_
              refine J.nop (pc' := 62) rfl ?_
              refine J.iconst (v := (1 : Int32)) d_R_settle_62 ki_1 ?_
              refine J.isub d_R_settle_63 ?_
              obtain ⟨m6, hm6, h⟩ := jpu_some h
              refine J.putI hG d_R_settle_64 fl_R_140 fp_2_8 ck_21_8 hm6 ?_
              refine J.iinc 3 (v := (-1 : Int32)) (lv := [(2, .int (v2 + (-1 : Int32))), (3, jr G q1), (0, jr G 21), (1, .int v1)]) d_R_settle_67 rfl ki_m1 (by decide) rfl ?_
              refine J.goto 5 d_R_settle_70 rfl ?_
              exact J.sub (ls' := [(0, jr G 21), (1, .int v1), (2, .int (v2 + (-1 : Int32)))]) [2, 3, 0] rfl (ih (v2 + (-1 : Int32)) m6 _ h)
            · rw [if_neg c] at h
              exact J.sub (ls' := []) [] rfl (hk47  m _ h)
theorem c_R_settle {G : jG} (hG : jFul G) {v1 : Int32} {m : jMem} {r : (Unit × jMem)} (h : f_R_settle v1 m = some r) : jCt G Y_R_settle [jr G 21, .int v1] m (jrv r) := by
  refine jCt.ov (ls := [(0, jr G 21), (1, .int v1)]) mi_R_settle (jAvR (jAvI jAvN)) (Nat.le_of_ble_eq_true rfl) ?_ ⟨rfl, rfl⟩
  unfold f_R_settle at h
  refine J.aload_n 0 d_R_settle_0 rfl rfl ?_
  refine J.getI hG d_R_settle_1 fl_R_140 ck_21_8 ?_
  refine J.istore_n (lv := [(2, .int (m 21 8)), (0, jr G 21), (1, .int v1)]) d_R_settle_4 rfl (by decide) rfl ?_
  refine J.sub (ls' := [(0, jr G 21), (1, .int v1), (2, .int (m 21 8))]) [1, 2, 0] rfl ?_
  refine jlp_R_settle_5 hG v1 _ _ ?_ ?_ _ (m 21 8) m _ h
  · intro m7 r h
    cases h
    exact J.vret d_R_settle_47 rfl rfl
  · intro m8 r h
    cases h
    exact J.vret d_R_settle_73 rfl rfl

def f_R_closeBracket (m : jMem) : Option (Unit × jMem) :=
  jbd (f_R_settle (0 : Int32) m) fun u1 m2 =>
  if (m2 21 8) ≤ 0 then
    jpu m2 21 9 ((m2 21 9) - (1 : Int32)) fun m3 =>
    jbd (f_R_stepTo ((m3 21 1) + (1 : Int32)) m3) fun u4 m5 =>
    some ((), m5)
  else
    jpu m2 21 8 ((m2 21 8) - (1 : Int32)) fun m6 =>
    jpu m6 21 9 ((m6 21 9) - (1 : Int32)) fun m7 =>
    jbd (f_R_stepTo ((m7 21 1) + (1 : Int32)) m7) fun u8 m9 =>
    some ((), m9)
theorem c_R_closeBracket {G : jG} (hG : jFul G) {m : jMem} {r : (Unit × jMem)} (h : f_R_closeBracket m = some r) : jCt G Y_R_closeBracket [jr G 21] m (jrv r) := by
  refine jCt.ov (ls := [(0, jr G 21)]) mi_R_closeBracket (jAvR jAvN) (Nat.le_of_ble_eq_true rfl) ?_ ⟨rfl, rfl⟩
  unfold f_R_closeBracket at h
  refine J.aload_n 0 d_R_closeBracket_0 rfl rfl ?_
  refine J.iconst (v := (0 : Int32)) d_R_closeBracket_1 ki_0 ?_
  obtain ⟨u1, m2, zm2, h⟩ := jbd_some h
  refine J.cVv Y_R_settle (As := [.int (0 : Int32)]) (rest := []) hG d_R_closeBracket_2 mi_R_settle mv_R_settle lk_R_165 ⟨rfl, rfl, Nat.le_of_ble_eq_true rfl⟩ cq_21 cc_2 (c_R_settle hG zm2) rfl (Nat.le_trans jcN (Nat.le_of_ble_eq_true rfl)) ?_
  refine J.aload_n 0 d_R_closeBracket_5 rfl rfl ?_
  refine J.getI hG d_R_closeBracket_6 fl_R_140 ck_21_8 ?_
  refine J.if_le 22 d_R_closeBracket_9 rfl (fun c => ?_) (fun c => ?_)
  · rw [if_pos c] at h
    refine J.aload_n 0 d_R_closeBracket_22 rfl rfl ?_
    refine J.dup d_R_closeBracket_23 (jr_cat _ _) ?_
    refine J.getI hG d_R_closeBracket_24 fl_R_143 ck_21_9 ?_
    refine J.iconst (v := (1 : Int32)) d_R_closeBracket_27 ki_1 ?_
    refine J.isub d_R_closeBracket_28 ?_
    obtain ⟨m3, hm3, h⟩ := jpu_some h
    refine J.putI hG d_R_closeBracket_29 fl_R_143 fp_2_9 ck_21_9 hm3 ?_
    refine J.aload_n 0 d_R_closeBracket_32 rfl rfl ?_
    refine J.aload_n 0 d_R_closeBracket_33 rfl rfl ?_
    refine J.nop (pc' := 34) rfl ?_
    refine J.getI hG d_R_closeBracket_34 fl_R_81 ck_21_1 ?_
    refine J.iconst (v := (1 : Int32)) d_R_closeBracket_37 ki_1 ?_
    refine J.iadd d_R_closeBracket_38 ?_
    obtain ⟨u4, m5, zm5, h⟩ := jbd_some h
    refine J.cVv Y_R_stepTo (As := [.int ((m3 21 1) + (1 : Int32))]) (rest := []) hG d_R_closeBracket_39 mi_R_stepTo mv_R_stepTo lk_R_57 ⟨rfl, rfl, Nat.le_of_ble_eq_true rfl⟩ cq_21 cc_2 (c_R_stepTo hG zm5) rfl (Nat.le_trans jcN (Nat.le_of_ble_eq_true rfl)) ?_
    cases h
    exact J.vret d_R_closeBracket_42 rfl rfl
  · rw [if_neg c] at h
    refine J.aload_n 0 d_R_closeBracket_12 rfl rfl ?_
    refine J.dup d_R_closeBracket_13 (jr_cat _ _) ?_
    refine J.nop (pc' := 14) rfl ?_
    refine J.getI hG d_R_closeBracket_14 fl_R_140 ck_21_8 ?_
    refine J.iconst (v := (1 : Int32)) d_R_closeBracket_17 ki_1 ?_
    refine J.isub d_R_closeBracket_18 ?_
    obtain ⟨m6, hm6, h⟩ := jpu_some h
    refine J.putI hG d_R_closeBracket_19 fl_R_140 fp_2_8 ck_21_8 hm6 ?_
    refine J.aload_n 0 d_R_closeBracket_22 rfl rfl ?_
    refine J.dup d_R_closeBracket_23 (jr_cat _ _) ?_
    refine J.getI hG d_R_closeBracket_24 fl_R_143 ck_21_9 ?_
    refine J.iconst (v := (1 : Int32)) d_R_closeBracket_27 ki_1 ?_
    refine J.nop (pc' := 28) rfl ?_
    refine J.isub d_R_closeBracket_28 ?_
    obtain ⟨m7, hm7, h⟩ := jpu_some h
    refine J.putI hG d_R_closeBracket_29 fl_R_143 fp_2_9 ck_21_9 hm7 ?_
    refine J.aload_n 0 d_R_closeBracket_32 rfl rfl ?_
    refine J.aload_n 0 d_R_closeBracket_33 rfl rfl ?_
    refine J.getI hG d_R_closeBracket_34 fl_R_81 ck_21_1 ?_
    refine J.iconst (v := (1 : Int32)) d_R_closeBracket_37 ki_1 ?_
    refine J.iadd d_R_closeBracket_38 ?_
    obtain ⟨u8, m9, zm9, h⟩ := jbd_some h
    refine J.cVv Y_R_stepTo (As := [.int ((m7 21 1) + (1 : Int32))]) (rest := []) hG d_R_closeBracket_39 mi_R_stepTo mv_R_stepTo lk_R_57 ⟨rfl, rfl, Nat.le_of_ble_eq_true rfl⟩ cq_21 cc_2 (c_R_stepTo hG zm9) rfl (Nat.le_trans jcN (Nat.le_of_ble_eq_true rfl)) ?_
    refine J.nop (pc' := 42) rfl ?_
    cases h
    exact J.vret d_R_closeBracket_42 rfl rfl

def f_R_pend (m : jMem) : Option (Unit × jMem) :=
  if (72 : Int32) ≤ (m 21 8) then
    some ((), m)
  else
    jgd (jtk (m 21 2).toNatClampNeg) (jst 4 m 22 (m 21 8) (Int32.ofNat (m 21 2).toNatClampNeg) fun m1 =>
    jpu m1 21 8 ((m1 21 8) + (1 : Int32)) fun m2 =>
    some ((), m2))
theorem c_R_pend {G : jG} (hG : jFul G) {m : jMem} {r : (Unit × jMem)} (h : f_R_pend m = some r) : jCt G Y_R_pend [jr G 21] m (jrv r) := by
  refine jCt.ov (ls := [(0, jr G 21)]) mi_R_pend (jAvR jAvN) (Nat.le_of_ble_eq_true rfl) ?_ ⟨rfl, rfl⟩
  unfold f_R_pend at h
  refine J.aload_n 0 d_R_pend_0 rfl rfl ?_
  refine J.getI hG d_R_pend_1 fl_R_140 ck_21_8 ?_
  refine J.aload_n 0 d_R_pend_4 rfl rfl ?_
  refine J.getF (n := 22) hG d_R_pend_5 fl_R_24 ck_21_7 rfl ?_
  refine J.aln (v := (72 : Int32)) hG d_R_pend_8 (Or.inr (Or.inr rfl)) rfl ?_
  refine J.icmp_ge 35 d_R_pend_9 rfl (fun c => ?_) (fun c => ?_)
  · rw [if_pos c] at h
    cases h
    exact J.vret d_R_pend_35 rfl rfl
  · rw [if_neg c] at h
    refine J.aload_n 0 d_R_pend_12 rfl rfl ?_
    refine J.getF (n := 22) hG d_R_pend_13 fl_R_24 ck_21_7 rfl ?_
    refine J.nop (pc' := 16) rfl ?_
    refine J.aload_n 0 d_R_pend_16 rfl rfl ?_
    refine J.getI hG d_R_pend_17 fl_R_140 ck_21_8 ?_
    refine J.aload_n 0 d_R_pend_20 rfl rfl ?_
    refine J.getM hG d_R_pend_21 fl_R_15 ck_21_2 ?_
    obtain ⟨gt, h⟩ := jgd_some h
    obtain ⟨m1, hm1, g, h⟩ := jst_some h
    refine J.s4 hG d_R_pend_24 g gt hm1 ?_
    refine J.aload_n 0 d_R_pend_25 rfl rfl ?_
    refine J.dup d_R_pend_26 (jr_cat _ _) ?_
    refine J.getI hG d_R_pend_27 fl_R_140 ck_21_8 ?_
    refine J.nop (pc' := 30) rfl ?_
    refine J.iconst (v := (1 : Int32)) d_R_pend_30 ki_1 ?_
    refine J.iadd d_R_pend_31 ?_
    obtain ⟨m2, hm2, h⟩ := jpu_some h
    refine J.putI hG d_R_pend_32 fl_R_140 fp_2_8 ck_21_8 hm2 ?_
    cases h
    exact J.vret d_R_pend_35 rfl rfl

def f_R_takePending (m : jMem) : Option (Unit × jMem) :=
  jgd (jhok (m 21 6).toNatClampNeg) (
    if (m (m 21 6).toNatClampNeg 11) < (64 : Int32) then
      jgd (jhok (m 21 6).toNatClampNeg) (
        jgd (jhok (m 21 6).toNatClampNeg) (
          jpu m (m 21 6).toNatClampNeg 11 ((m (m 21 6).toNatClampNeg 11) + (1 : Int32)) fun m3 =>
          jbd (f_R_pend m3) fun u5 m6 =>
          jbd (f_R_stepTo ((m6 21 1) + (1 : Int32)) m6) fun u7 m8 =>
          some ((), m8)))
    else
      jbd (f_R_fail (2 : Int32) m) fun u9 m10 =>
      some ((), m10))
theorem c_R_takePending {G : jG} (hG : jFul G) {m : jMem} {r : (Unit × jMem)} (h : f_R_takePending m = some r) : jCt G Y_R_takePending [jr G 21] m (jrv r) := by
  refine jCt.ov (ls := [(0, jr G 21)]) mi_R_takePending (jAvR jAvN) (Nat.le_of_ble_eq_true rfl) ?_ ⟨rfl, rfl⟩
  unfold f_R_takePending at h
  refine J.aload_n 0 d_R_takePending_0 rfl rfl ?_
  refine J.getM hG d_R_takePending_1 fl_R_41 ck_21_6 ?_
  obtain ⟨g1, h⟩ := jgd_some h
  refine J.getI hG d_R_takePending_4 fl_R_168 (jhok_I g1 11 rfl) ?_
  refine J.bipush (v := (64 : Int32)) d_R_takePending_7 kb_64 ?_
  refine J.icmp_lt 18 d_R_takePending_9 rfl (fun c => ?_) (fun c => ?_)
  · rw [if_pos c] at h
    refine J.aload_n 0 d_R_takePending_18 rfl rfl ?_
    refine J.getM hG d_R_takePending_19 fl_R_41 ck_21_6 ?_
    refine J.dup d_R_takePending_22 (jr_cat _ _) ?_
    obtain ⟨g2, h⟩ := jgd_some h
    refine J.getI hG d_R_takePending_23 fl_R_168 (jhok_I g2 11 rfl) ?_
    refine J.iconst (v := (1 : Int32)) d_R_takePending_26 ki_1 ?_
    refine J.iadd d_R_takePending_27 ?_
    obtain ⟨g4, h⟩ := jgd_some h
    obtain ⟨m3, hm3, h⟩ := jpu_some h
    refine J.putI hG d_R_takePending_28 fl_R_168 fp_1_11 (jhok_I g4 11 rfl) hm3 ?_
    refine J.aload_n 0 d_R_takePending_31 rfl rfl ?_
    refine J.nop (pc' := 32) rfl ?_
    obtain ⟨u5, m6, zm6, h⟩ := jbd_some h
    refine J.cVv Y_R_pend (As := []) (rest := []) hG d_R_takePending_32 mi_R_pend mv_R_pend lk_R_186 ⟨rfl, rfl, Nat.le_of_ble_eq_true rfl⟩ cq_21 cc_2 (c_R_pend hG zm6) rfl (Nat.le_trans jcN (Nat.le_of_ble_eq_true rfl)) ?_
    refine J.aload_n 0 d_R_takePending_35 rfl rfl ?_
    refine J.aload_n 0 d_R_takePending_36 rfl rfl ?_
    refine J.getI hG d_R_takePending_37 fl_R_81 ck_21_1 ?_
    refine J.iconst (v := (1 : Int32)) d_R_takePending_40 ki_1 ?_
    refine J.iadd d_R_takePending_41 ?_
    obtain ⟨u7, m8, zm8, h⟩ := jbd_some h
    refine J.cVv Y_R_stepTo (As := [.int ((m6 21 1) + (1 : Int32))]) (rest := []) hG d_R_takePending_42 mi_R_stepTo mv_R_stepTo lk_R_57 ⟨rfl, rfl, Nat.le_of_ble_eq_true rfl⟩ cq_21 cc_2 (c_R_stepTo hG zm8) rfl (Nat.le_trans jcN (Nat.le_of_ble_eq_true rfl)) ?_
    cases h
    exact J.vret d_R_takePending_45 rfl rfl
  · rw [if_neg c] at h
    refine J.aload_n 0 d_R_takePending_12 rfl rfl ?_
    refine J.iconst (v := (2 : Int32)) d_R_takePending_13 ki_2 ?_
    obtain ⟨u9, m10, zm10, h⟩ := jbd_some h
    refine J.cVv Y_R_fail (As := [.int (2 : Int32)]) (rest := []) hG d_R_takePending_14 mi_R_fail mv_R_fail lk_R_78 ⟨rfl, rfl, Nat.le_of_ble_eq_true rfl⟩ cq_21 cc_2 (c_R_fail hG zm10) rfl (Nat.le_trans jcN (Nat.le_of_ble_eq_true rfl)) ?_
    refine J.nop (pc' := 17) rfl ?_
    cases h
    exact J.vret d_R_takePending_17 rfl rfl

def f_R_takeJoint (m : jMem) : Option (Unit × jMem) :=
  jgd (jtk (m 21 2).toNatClampNeg) (
    jlt (jtkR (m 21 2).toNatClampNeg) fun x1 =>
    if x1 = (4 : Int32) then
      if (1 : Int32) = 0 then
        jgd (jtk (m 21 2).toNatClampNeg) (
          jlt (jtkR (m 21 2).toNatClampNeg) fun x69 =>
          if (4 : Int32) < x69 then
            jgd (jtk (m 21 2).toNatClampNeg) (
              jlt (jtkR (m 21 2).toNatClampNeg) fun x70 =>
              if (4 : Int32) ≤ x70 then
                jpu m 21 12 (0 : Int32) fun m71 =>
                jpu m71 21 11 (1 : Int32) fun m72 =>
                jgd (jtk (m72 21 2).toNatClampNeg) (
                  jlt (jtkR (m72 21 2).toNatClampNeg) fun x73 =>
                  jbd (f_R_settle x73 m72) fun u74 m75 =>
                  jbd (f_R_takePending m75) fun u76 m77 =>
                  some ((), m77))
              else
                jpu m 21 12 (1 : Int32) fun m78 =>
                jpu m78 21 11 (1 : Int32) fun m79 =>
                jgd (jtk (m79 21 2).toNatClampNeg) (
                  jlt (jtkR (m79 21 2).toNatClampNeg) fun x80 =>
                  jbd (f_R_settle x80 m79) fun u81 m82 =>
                  jbd (f_R_takePending m82) fun u83 m84 =>
                  some ((), m84)))
          else
            jst 2 m 23 (m 21 9) (jbz (1 : Int32)) fun m85 =>
            jgd (jtk (m85 21 2).toNatClampNeg) (
              jlt (jtkR (m85 21 2).toNatClampNeg) fun x86 =>
              if (4 : Int32) ≤ x86 then
                jpu m85 21 12 (0 : Int32) fun m87 =>
                jpu m87 21 11 (1 : Int32) fun m88 =>
                jgd (jtk (m88 21 2).toNatClampNeg) (
                  jlt (jtkR (m88 21 2).toNatClampNeg) fun x89 =>
                  jbd (f_R_settle x89 m88) fun u90 m91 =>
                  jbd (f_R_takePending m91) fun u92 m93 =>
                  some ((), m93))
              else
                jpu m85 21 12 (1 : Int32) fun m94 =>
                jpu m94 21 11 (1 : Int32) fun m95 =>
                jgd (jtk (m95 21 2).toNatClampNeg) (
                  jlt (jtkR (m95 21 2).toNatClampNeg) fun x96 =>
                  jbd (f_R_settle x96 m95) fun u97 m98 =>
                  jbd (f_R_takePending m98) fun u99 m100 =>
                  some ((), m100))))
      else
        jld 2 m 23 (m 21 9) fun x101 =>
        if x101 = 0 then
          jgd (jtk (m 21 2).toNatClampNeg) (
            jlt (jtkR (m 21 2).toNatClampNeg) fun x102 =>
            if (4 : Int32) < x102 then
              jgd (jtk (m 21 2).toNatClampNeg) (
                jlt (jtkR (m 21 2).toNatClampNeg) fun x103 =>
                if (4 : Int32) ≤ x103 then
                  jpu m 21 12 (0 : Int32) fun m104 =>
                  jpu m104 21 11 (1 : Int32) fun m105 =>
                  jgd (jtk (m105 21 2).toNatClampNeg) (
                    jlt (jtkR (m105 21 2).toNatClampNeg) fun x106 =>
                    jbd (f_R_settle x106 m105) fun u107 m108 =>
                    jbd (f_R_takePending m108) fun u109 m110 =>
                    some ((), m110))
                else
                  jpu m 21 12 (1 : Int32) fun m111 =>
                  jpu m111 21 11 (1 : Int32) fun m112 =>
                  jgd (jtk (m112 21 2).toNatClampNeg) (
                    jlt (jtkR (m112 21 2).toNatClampNeg) fun x113 =>
                    jbd (f_R_settle x113 m112) fun u114 m115 =>
                    jbd (f_R_takePending m115) fun u116 m117 =>
                    some ((), m117)))
            else
              jst 2 m 23 (m 21 9) (jbz (1 : Int32)) fun m118 =>
              jgd (jtk (m118 21 2).toNatClampNeg) (
                jlt (jtkR (m118 21 2).toNatClampNeg) fun x119 =>
                if (4 : Int32) ≤ x119 then
                  jpu m118 21 12 (0 : Int32) fun m120 =>
                  jpu m120 21 11 (1 : Int32) fun m121 =>
                  jgd (jtk (m121 21 2).toNatClampNeg) (
                    jlt (jtkR (m121 21 2).toNatClampNeg) fun x122 =>
                    jbd (f_R_settle x122 m121) fun u123 m124 =>
                    jbd (f_R_takePending m124) fun u125 m126 =>
                    some ((), m126))
                else
                  jpu m118 21 12 (1 : Int32) fun m127 =>
                  jpu m127 21 11 (1 : Int32) fun m128 =>
                  jgd (jtk (m128 21 2).toNatClampNeg) (
                    jlt (jtkR (m128 21 2).toNatClampNeg) fun x129 =>
                    jbd (f_R_settle x129 m128) fun u130 m131 =>
                    jbd (f_R_takePending m131) fun u132 m133 =>
                    some ((), m133))))
        else
          jbd (f_R_fail (1 : Int32) m) fun u134 m135 =>
          some ((), m135)
    else
      if (0 : Int32) = 0 then
        jgd (jtk (m 21 2).toNatClampNeg) (
          jlt (jtkR (m 21 2).toNatClampNeg) fun x2 =>
          if (4 : Int32) < x2 then
            jgd (jtk (m 21 2).toNatClampNeg) (
              jlt (jtkR (m 21 2).toNatClampNeg) fun x3 =>
              if (4 : Int32) ≤ x3 then
                jpu m 21 12 (0 : Int32) fun m4 =>
                jpu m4 21 11 (1 : Int32) fun m5 =>
                jgd (jtk (m5 21 2).toNatClampNeg) (
                  jlt (jtkR (m5 21 2).toNatClampNeg) fun x6 =>
                  jbd (f_R_settle x6 m5) fun u7 m8 =>
                  jbd (f_R_takePending m8) fun u9 m10 =>
                  some ((), m10))
              else
                jpu m 21 12 (1 : Int32) fun m11 =>
                jpu m11 21 11 (1 : Int32) fun m12 =>
                jgd (jtk (m12 21 2).toNatClampNeg) (
                  jlt (jtkR (m12 21 2).toNatClampNeg) fun x13 =>
                  jbd (f_R_settle x13 m12) fun u14 m15 =>
                  jbd (f_R_takePending m15) fun u16 m17 =>
                  some ((), m17)))
          else
            jst 2 m 23 (m 21 9) (jbz (0 : Int32)) fun m18 =>
            jgd (jtk (m18 21 2).toNatClampNeg) (
              jlt (jtkR (m18 21 2).toNatClampNeg) fun x19 =>
              if (4 : Int32) ≤ x19 then
                jpu m18 21 12 (0 : Int32) fun m20 =>
                jpu m20 21 11 (1 : Int32) fun m21 =>
                jgd (jtk (m21 21 2).toNatClampNeg) (
                  jlt (jtkR (m21 21 2).toNatClampNeg) fun x22 =>
                  jbd (f_R_settle x22 m21) fun u23 m24 =>
                  jbd (f_R_takePending m24) fun u25 m26 =>
                  some ((), m26))
              else
                jpu m18 21 12 (1 : Int32) fun m27 =>
                jpu m27 21 11 (1 : Int32) fun m28 =>
                jgd (jtk (m28 21 2).toNatClampNeg) (
                  jlt (jtkR (m28 21 2).toNatClampNeg) fun x29 =>
                  jbd (f_R_settle x29 m28) fun u30 m31 =>
                  jbd (f_R_takePending m31) fun u32 m33 =>
                  some ((), m33))))
      else
        jld 2 m 23 (m 21 9) fun x34 =>
        if x34 = 0 then
          jgd (jtk (m 21 2).toNatClampNeg) (
            jlt (jtkR (m 21 2).toNatClampNeg) fun x35 =>
            if (4 : Int32) < x35 then
              jgd (jtk (m 21 2).toNatClampNeg) (
                jlt (jtkR (m 21 2).toNatClampNeg) fun x36 =>
                if (4 : Int32) ≤ x36 then
                  jpu m 21 12 (0 : Int32) fun m37 =>
                  jpu m37 21 11 (1 : Int32) fun m38 =>
                  jgd (jtk (m38 21 2).toNatClampNeg) (
                    jlt (jtkR (m38 21 2).toNatClampNeg) fun x39 =>
                    jbd (f_R_settle x39 m38) fun u40 m41 =>
                    jbd (f_R_takePending m41) fun u42 m43 =>
                    some ((), m43))
                else
                  jpu m 21 12 (1 : Int32) fun m44 =>
                  jpu m44 21 11 (1 : Int32) fun m45 =>
                  jgd (jtk (m45 21 2).toNatClampNeg) (
                    jlt (jtkR (m45 21 2).toNatClampNeg) fun x46 =>
                    jbd (f_R_settle x46 m45) fun u47 m48 =>
                    jbd (f_R_takePending m48) fun u49 m50 =>
                    some ((), m50)))
            else
              jst 2 m 23 (m 21 9) (jbz (0 : Int32)) fun m51 =>
              jgd (jtk (m51 21 2).toNatClampNeg) (
                jlt (jtkR (m51 21 2).toNatClampNeg) fun x52 =>
                if (4 : Int32) ≤ x52 then
                  jpu m51 21 12 (0 : Int32) fun m53 =>
                  jpu m53 21 11 (1 : Int32) fun m54 =>
                  jgd (jtk (m54 21 2).toNatClampNeg) (
                    jlt (jtkR (m54 21 2).toNatClampNeg) fun x55 =>
                    jbd (f_R_settle x55 m54) fun u56 m57 =>
                    jbd (f_R_takePending m57) fun u58 m59 =>
                    some ((), m59))
                else
                  jpu m51 21 12 (1 : Int32) fun m60 =>
                  jpu m60 21 11 (1 : Int32) fun m61 =>
                  jgd (jtk (m61 21 2).toNatClampNeg) (
                    jlt (jtkR (m61 21 2).toNatClampNeg) fun x62 =>
                    jbd (f_R_settle x62 m61) fun u63 m64 =>
                    jbd (f_R_takePending m64) fun u65 m66 =>
                    some ((), m66))))
        else
          jbd (f_R_fail (1 : Int32) m) fun u67 m68 =>
          some ((), m68))
theorem c_R_takeJoint {G : jG} (hG : jFul G) {m : jMem} {r : (Unit × jMem)} (h : f_R_takeJoint m = some r) : jCt G Y_R_takeJoint [jr G 21] m (jrv r) := by
  refine jCt.ov (ls := [(0, jr G 21)]) mi_R_takeJoint (jAvR jAvN) (Nat.le_of_ble_eq_true rfl) ?_ ⟨rfl, rfl⟩
  unfold f_R_takeJoint at h
  refine J.aload_n 0 d_R_takeJoint_0 rfl rfl ?_
  refine J.getM hG d_R_takeJoint_1 fl_R_15 ck_21_2 ?_
  obtain ⟨g, h⟩ := jgd_some h
  obtain ⟨x1, ex1, h⟩ := jlt_some h
  refine J.gkR d_R_takeJoint_4 g (Or.inr ⟨"CitingLetters", jn_8 228 rfl rfl⟩) ex1 ?_
  refine J.iconst (v := (4 : Int32)) d_R_takeJoint_7 ki_4 ?_
  refine J.icmp_ne 15 d_R_takeJoint_8 rfl (fun c => ?_) (fun c => ?_)
  · rw [if_neg c] at h
    refine J.iconst (v := (0 : Int32)) d_R_takeJoint_15 ki_0 ?_
    refine J.istore_n (lv := [(1, .int (0 : Int32)), (0, jr G 21)]) d_R_takeJoint_16 rfl (by decide) rfl ?_
    refine J.iload_n 0 d_R_takeJoint_17 rfl rfl ?_
    refine J.if_eq 39 d_R_takeJoint_18 rfl (fun c => ?_) (fun c => ?_)
    · rw [if_pos c] at h
      refine J.aload_n 1 d_R_takeJoint_39 rfl rfl ?_
      refine J.getM hG d_R_takeJoint_40 fl_R_15 ck_21_2 ?_
      obtain ⟨g, h⟩ := jgd_some h
      obtain ⟨x2, ex2, h⟩ := jlt_some h
      refine J.gkR d_R_takeJoint_43 g (Or.inr ⟨"CitingLetters", jn_8 228 rfl rfl⟩) ex2 ?_
      refine J.iconst (v := (4 : Int32)) d_R_takeJoint_46 ki_4 ?_
      refine J.icmp_gt 60 d_R_takeJoint_47 rfl (fun c => ?_) (fun c => ?_)
      · rw [if_pos c] at h
        refine J.aload_n 1 d_R_takeJoint_60 rfl rfl ?_
        refine J.aload_n 1 d_R_takeJoint_61 rfl rfl ?_
        refine J.getM hG d_R_takeJoint_62 fl_R_15 ck_21_2 ?_
        obtain ⟨g, h⟩ := jgd_some h
        obtain ⟨x3, ex3, h⟩ := jlt_some h
        refine J.gkR d_R_takeJoint_65 g (Or.inr ⟨"CitingLetters", jn_8 228 rfl rfl⟩) ex3 ?_
        refine J.iconst (v := (4 : Int32)) d_R_takeJoint_68 ki_4 ?_
        refine J.icmp_ge 76 d_R_takeJoint_69 rfl (fun c => ?_) (fun c => ?_)
        · rw [if_pos c] at h
          refine J.iconst (v := (0 : Int32)) d_R_takeJoint_76 ki_0 ?_
          obtain ⟨m4, hm4, h⟩ := jpu_some h
          refine J.putZ hG d_R_takeJoint_77 fl_R_150 fp_2_12 ck_21_12 (Or.inl rfl) hm4 ?_
          refine J.aload_n 1 d_R_takeJoint_80 rfl rfl ?_
          refine J.iconst (v := (1 : Int32)) d_R_takeJoint_81 ki_1 ?_
          obtain ⟨m5, hm5, h⟩ := jpu_some h
          refine J.putZ hG d_R_takeJoint_82 fl_R_146 fp_2_11 ck_21_11 (Or.inr rfl) hm5 ?_
          refine J.aload_n 1 d_R_takeJoint_85 rfl rfl ?_
          refine J.aload_n 1 d_R_takeJoint_86 rfl rfl ?_
          refine J.getM hG d_R_takeJoint_87 fl_R_15 ck_21_2 ?_
          refine J.nop (pc' := 90) rfl ?_
          obtain ⟨g, h⟩ := jgd_some h
          obtain ⟨x6, ex6, h⟩ := jlt_some h
          refine J.gkR d_R_takeJoint_90 g (Or.inr ⟨"CitingLetters", jn_8 228 rfl rfl⟩) ex6 ?_
          obtain ⟨u7, m8, zm8, h⟩ := jbd_some h
          refine J.cVv Y_R_settle (As := [.int x6]) (rest := []) hG d_R_takeJoint_93 mi_R_settle mv_R_settle lk_R_165 ⟨rfl, rfl, Nat.le_of_ble_eq_true rfl⟩ cq_21 cc_2 (c_R_settle hG zm8) rfl (Nat.le_trans jcN (Nat.le_of_ble_eq_true rfl)) ?_
          refine J.aload_n 1 d_R_takeJoint_96 rfl rfl ?_
          obtain ⟨u9, m10, zm10, h⟩ := jbd_some h
          refine J.cVv Y_R_takePending (As := []) (rest := []) hG d_R_takeJoint_97 mi_R_takePending mv_R_takePending lk_R_183 ⟨rfl, rfl, Nat.le_of_ble_eq_true rfl⟩ cq_21 cc_2 (c_R_takePending hG zm10) rfl (Nat.le_trans jcN (Nat.le_of_ble_eq_true rfl)) ?_
          cases h
          exact J.vret d_R_takeJoint_100 rfl rfl
        · rw [if_neg c] at h
          refine J.iconst (v := (1 : Int32)) d_R_takeJoint_72 ki_1 ?_
          refine J.goto 77 d_R_takeJoint_73 rfl ?_
          obtain ⟨m11, hm11, h⟩ := jpu_some h
          refine J.putZ hG d_R_takeJoint_77 fl_R_150 fp_2_12 ck_21_12 (Or.inr rfl) hm11 ?_
          refine J.aload_n 1 d_R_takeJoint_80 rfl rfl ?_
          refine J.iconst (v := (1 : Int32)) d_R_takeJoint_81 ki_1 ?_
          obtain ⟨m12, hm12, h⟩ := jpu_some h
          refine J.putZ hG d_R_takeJoint_82 fl_R_146 fp_2_11 ck_21_11 (Or.inr rfl) hm12 ?_
          refine J.aload_n 1 d_R_takeJoint_85 rfl rfl ?_
          refine J.aload_n 1 d_R_takeJoint_86 rfl rfl ?_
          refine J.getM hG d_R_takeJoint_87 fl_R_15 ck_21_2 ?_
          obtain ⟨g, h⟩ := jgd_some h
          obtain ⟨x13, ex13, h⟩ := jlt_some h
          refine J.gkR d_R_takeJoint_90 g (Or.inr ⟨"CitingLetters", jn_8 228 rfl rfl⟩) ex13 ?_
          refine J.nop (pc' := 93) rfl ?_
          obtain ⟨u14, m15, zm15, h⟩ := jbd_some h
          refine J.cVv Y_R_settle (As := [.int x13]) (rest := []) hG d_R_takeJoint_93 mi_R_settle mv_R_settle lk_R_165 ⟨rfl, rfl, Nat.le_of_ble_eq_true rfl⟩ cq_21 cc_2 (c_R_settle hG zm15) rfl (Nat.le_trans jcN (Nat.le_of_ble_eq_true rfl)) ?_
          refine J.aload_n 1 d_R_takeJoint_96 rfl rfl ?_
          obtain ⟨u16, m17, zm17, h⟩ := jbd_some h
          refine J.cVv Y_R_takePending (As := []) (rest := []) hG d_R_takeJoint_97 mi_R_takePending mv_R_takePending lk_R_183 ⟨rfl, rfl, Nat.le_of_ble_eq_true rfl⟩ cq_21 cc_2 (c_R_takePending hG zm17) rfl (Nat.le_trans jcN (Nat.le_of_ble_eq_true rfl)) ?_
          cases h
          exact J.vret d_R_takeJoint_100 rfl rfl
      · rw [if_neg c] at h
        refine J.aload_n 1 d_R_takeJoint_50 rfl rfl ?_
        refine J.getF (n := 23) hG d_R_takeJoint_51 fl_R_28 ck_21_10 rfl ?_
        refine J.aload_n 1 d_R_takeJoint_54 rfl rfl ?_
        refine J.nop (pc' := 55) rfl ?_
        refine J.getI hG d_R_takeJoint_55 fl_R_143 ck_21_9 ?_
        refine J.iload_n 0 d_R_takeJoint_58 rfl rfl ?_
        obtain ⟨m18, hm18, g, h⟩ := jst_some h
        refine J.zs hG d_R_takeJoint_59 g hm18 ?_
        refine J.aload_n 1 d_R_takeJoint_60 rfl rfl ?_
        refine J.aload_n 1 d_R_takeJoint_61 rfl rfl ?_
        refine J.getM hG d_R_takeJoint_62 fl_R_15 ck_21_2 ?_
        obtain ⟨g, h⟩ := jgd_some h
        obtain ⟨x19, ex19, h⟩ := jlt_some h
        refine J.gkR d_R_takeJoint_65 g (Or.inr ⟨"CitingLetters", jn_8 228 rfl rfl⟩) ex19 ?_
        refine J.iconst (v := (4 : Int32)) d_R_takeJoint_68 ki_4 ?_
        refine J.nop (pc' := 69) rfl ?_
        refine J.icmp_ge 76 d_R_takeJoint_69 rfl (fun c => ?_) (fun c => ?_)
        · rw [if_pos c] at h
          refine J.iconst (v := (0 : Int32)) d_R_takeJoint_76 ki_0 ?_
          obtain ⟨m20, hm20, h⟩ := jpu_some h
          refine J.putZ hG d_R_takeJoint_77 fl_R_150 fp_2_12 ck_21_12 (Or.inl rfl) hm20 ?_
          refine J.aload_n 1 d_R_takeJoint_80 rfl rfl ?_
          refine J.iconst (v := (1 : Int32)) d_R_takeJoint_81 ki_1 ?_
          obtain ⟨m21, hm21, h⟩ := jpu_some h
          refine J.putZ hG d_R_takeJoint_82 fl_R_146 fp_2_11 ck_21_11 (Or.inr rfl) hm21 ?_
          refine J.aload_n 1 d_R_takeJoint_85 rfl rfl ?_
          refine J.aload_n 1 d_R_takeJoint_86 rfl rfl ?_
          refine J.getM hG d_R_takeJoint_87 fl_R_15 ck_21_2 ?_
          refine J.nop (pc' := 90) rfl ?_
          obtain ⟨g, h⟩ := jgd_some h
          obtain ⟨x22, ex22, h⟩ := jlt_some h
          refine J.gkR d_R_takeJoint_90 g (Or.inr ⟨"CitingLetters", jn_8 228 rfl rfl⟩) ex22 ?_
          obtain ⟨u23, m24, zm24, h⟩ := jbd_some h
          refine J.cVv Y_R_settle (As := [.int x22]) (rest := []) hG d_R_takeJoint_93 mi_R_settle mv_R_settle lk_R_165 ⟨rfl, rfl, Nat.le_of_ble_eq_true rfl⟩ cq_21 cc_2 (c_R_settle hG zm24) rfl (Nat.le_trans jcN (Nat.le_of_ble_eq_true rfl)) ?_
          refine J.aload_n 1 d_R_takeJoint_96 rfl rfl ?_
          obtain ⟨u25, m26, zm26, h⟩ := jbd_some h
          refine J.cVv Y_R_takePending (As := []) (rest := []) hG d_R_takeJoint_97 mi_R_takePending mv_R_takePending lk_R_183 ⟨rfl, rfl, Nat.le_of_ble_eq_true rfl⟩ cq_21 cc_2 (c_R_takePending hG zm26) rfl (Nat.le_trans jcN (Nat.le_of_ble_eq_true rfl)) ?_
          cases h
          exact J.vret d_R_takeJoint_100 rfl rfl
        · rw [if_neg c] at h
          refine J.iconst (v := (1 : Int32)) d_R_takeJoint_72 ki_1 ?_
          refine J.goto 77 d_R_takeJoint_73 rfl ?_
          obtain ⟨m27, hm27, h⟩ := jpu_some h
          refine J.putZ hG d_R_takeJoint_77 fl_R_150 fp_2_12 ck_21_12 (Or.inr rfl) hm27 ?_
          refine J.aload_n 1 d_R_takeJoint_80 rfl rfl ?_
          refine J.iconst (v := (1 : Int32)) d_R_takeJoint_81 ki_1 ?_
          obtain ⟨m28, hm28, h⟩ := jpu_some h
          refine J.putZ hG d_R_takeJoint_82 fl_R_146 fp_2_11 ck_21_11 (Or.inr rfl) hm28 ?_
          refine J.aload_n 1 d_R_takeJoint_85 rfl rfl ?_
          refine J.aload_n 1 d_R_takeJoint_86 rfl rfl ?_
          refine J.getM hG d_R_takeJoint_87 fl_R_15 ck_21_2 ?_
          obtain ⟨g, h⟩ := jgd_some h
          obtain ⟨x29, ex29, h⟩ := jlt_some h
          refine J.gkR d_R_takeJoint_90 g (Or.inr ⟨"CitingLetters", jn_8 228 rfl rfl⟩) ex29 ?_
          refine J.nop (pc' := 93) rfl ?_
          obtain ⟨u30, m31, zm31, h⟩ := jbd_some h
          refine J.cVv Y_R_settle (As := [.int x29]) (rest := []) hG d_R_takeJoint_93 mi_R_settle mv_R_settle lk_R_165 ⟨rfl, rfl, Nat.le_of_ble_eq_true rfl⟩ cq_21 cc_2 (c_R_settle hG zm31) rfl (Nat.le_trans jcN (Nat.le_of_ble_eq_true rfl)) ?_
          refine J.aload_n 1 d_R_takeJoint_96 rfl rfl ?_
          obtain ⟨u32, m33, zm33, h⟩ := jbd_some h
          refine J.cVv Y_R_takePending (As := []) (rest := []) hG d_R_takeJoint_97 mi_R_takePending mv_R_takePending lk_R_183 ⟨rfl, rfl, Nat.le_of_ble_eq_true rfl⟩ cq_21 cc_2 (c_R_takePending hG zm33) rfl (Nat.le_trans jcN (Nat.le_of_ble_eq_true rfl)) ?_
          cases h
          exact J.vret d_R_takeJoint_100 rfl rfl
    · rw [if_neg c] at h
      refine J.aload_n 1 d_R_takeJoint_21 rfl rfl ?_
      refine J.getF (n := 23) hG d_R_takeJoint_22 fl_R_28 ck_21_10 rfl ?_
      refine J.aload_n 1 d_R_takeJoint_25 rfl rfl ?_
      refine J.getI hG d_R_takeJoint_26 fl_R_143 ck_21_9 ?_
      refine J.nop (pc' := 29) rfl ?_
      obtain ⟨x34, ex34, g, h⟩ := jld_some h
      refine J.zl hG d_R_takeJoint_29 g ex34 ?_
      refine J.if_eq 39 d_R_takeJoint_30 rfl (fun c => ?_) (fun c => ?_)
      · rw [if_pos c] at h
        refine J.aload_n 1 d_R_takeJoint_39 rfl rfl ?_
        refine J.getM hG d_R_takeJoint_40 fl_R_15 ck_21_2 ?_
        obtain ⟨g, h⟩ := jgd_some h
        obtain ⟨x35, ex35, h⟩ := jlt_some h
        refine J.gkR d_R_takeJoint_43 g (Or.inr ⟨"CitingLetters", jn_8 228 rfl rfl⟩) ex35 ?_
        refine J.iconst (v := (4 : Int32)) d_R_takeJoint_46 ki_4 ?_
        refine J.icmp_gt 60 d_R_takeJoint_47 rfl (fun c => ?_) (fun c => ?_)
        · rw [if_pos c] at h
          refine J.aload_n 1 d_R_takeJoint_60 rfl rfl ?_
          refine J.aload_n 1 d_R_takeJoint_61 rfl rfl ?_
          refine J.getM hG d_R_takeJoint_62 fl_R_15 ck_21_2 ?_
          obtain ⟨g, h⟩ := jgd_some h
          obtain ⟨x36, ex36, h⟩ := jlt_some h
          refine J.gkR d_R_takeJoint_65 g (Or.inr ⟨"CitingLetters", jn_8 228 rfl rfl⟩) ex36 ?_
          refine J.iconst (v := (4 : Int32)) d_R_takeJoint_68 ki_4 ?_
          refine J.icmp_ge 76 d_R_takeJoint_69 rfl (fun c => ?_) (fun c => ?_)
          · rw [if_pos c] at h
            refine J.iconst (v := (0 : Int32)) d_R_takeJoint_76 ki_0 ?_
            obtain ⟨m37, hm37, h⟩ := jpu_some h
            refine J.putZ hG d_R_takeJoint_77 fl_R_150 fp_2_12 ck_21_12 (Or.inl rfl) hm37 ?_
            refine J.aload_n 1 d_R_takeJoint_80 rfl rfl ?_
            refine J.iconst (v := (1 : Int32)) d_R_takeJoint_81 ki_1 ?_
            obtain ⟨m38, hm38, h⟩ := jpu_some h
            refine J.putZ hG d_R_takeJoint_82 fl_R_146 fp_2_11 ck_21_11 (Or.inr rfl) hm38 ?_
            refine J.aload_n 1 d_R_takeJoint_85 rfl rfl ?_
            refine J.aload_n 1 d_R_takeJoint_86 rfl rfl ?_
            refine J.getM hG d_R_takeJoint_87 fl_R_15 ck_21_2 ?_
            refine J.nop (pc' := 90) rfl ?_
            obtain ⟨g, h⟩ := jgd_some h
            obtain ⟨x39, ex39, h⟩ := jlt_some h
            refine J.gkR d_R_takeJoint_90 g (Or.inr ⟨"CitingLetters", jn_8 228 rfl rfl⟩) ex39 ?_
            obtain ⟨u40, m41, zm41, h⟩ := jbd_some h
            refine J.cVv Y_R_settle (As := [.int x39]) (rest := []) hG d_R_takeJoint_93 mi_R_settle mv_R_settle lk_R_165 ⟨rfl, rfl, Nat.le_of_ble_eq_true rfl⟩ cq_21 cc_2 (c_R_settle hG zm41) rfl (Nat.le_trans jcN (Nat.le_of_ble_eq_true rfl)) ?_
            refine J.aload_n 1 d_R_takeJoint_96 rfl rfl ?_
            obtain ⟨u42, m43, zm43, h⟩ := jbd_some h
            refine J.cVv Y_R_takePending (As := []) (rest := []) hG d_R_takeJoint_97 mi_R_takePending mv_R_takePending lk_R_183 ⟨rfl, rfl, Nat.le_of_ble_eq_true rfl⟩ cq_21 cc_2 (c_R_takePending hG zm43) rfl (Nat.le_trans jcN (Nat.le_of_ble_eq_true rfl)) ?_
            cases h
            exact J.vret d_R_takeJoint_100 rfl rfl
          · rw [if_neg c] at h
            refine J.iconst (v := (1 : Int32)) d_R_takeJoint_72 ki_1 ?_
            refine J.goto 77 d_R_takeJoint_73 rfl ?_
            obtain ⟨m44, hm44, h⟩ := jpu_some h
            refine J.putZ hG d_R_takeJoint_77 fl_R_150 fp_2_12 ck_21_12 (Or.inr rfl) hm44 ?_
            refine J.aload_n 1 d_R_takeJoint_80 rfl rfl ?_
            refine J.iconst (v := (1 : Int32)) d_R_takeJoint_81 ki_1 ?_
            obtain ⟨m45, hm45, h⟩ := jpu_some h
            refine J.putZ hG d_R_takeJoint_82 fl_R_146 fp_2_11 ck_21_11 (Or.inr rfl) hm45 ?_
            refine J.aload_n 1 d_R_takeJoint_85 rfl rfl ?_
            refine J.aload_n 1 d_R_takeJoint_86 rfl rfl ?_
            refine J.getM hG d_R_takeJoint_87 fl_R_15 ck_21_2 ?_
            obtain ⟨g, h⟩ := jgd_some h
            obtain ⟨x46, ex46, h⟩ := jlt_some h
            refine J.gkR d_R_takeJoint_90 g (Or.inr ⟨"CitingLetters", jn_8 228 rfl rfl⟩) ex46 ?_
            refine J.nop (pc' := 93) rfl ?_
            obtain ⟨u47, m48, zm48, h⟩ := jbd_some h
            refine J.cVv Y_R_settle (As := [.int x46]) (rest := []) hG d_R_takeJoint_93 mi_R_settle mv_R_settle lk_R_165 ⟨rfl, rfl, Nat.le_of_ble_eq_true rfl⟩ cq_21 cc_2 (c_R_settle hG zm48) rfl (Nat.le_trans jcN (Nat.le_of_ble_eq_true rfl)) ?_
            refine J.aload_n 1 d_R_takeJoint_96 rfl rfl ?_
            obtain ⟨u49, m50, zm50, h⟩ := jbd_some h
            refine J.cVv Y_R_takePending (As := []) (rest := []) hG d_R_takeJoint_97 mi_R_takePending mv_R_takePending lk_R_183 ⟨rfl, rfl, Nat.le_of_ble_eq_true rfl⟩ cq_21 cc_2 (c_R_takePending hG zm50) rfl (Nat.le_trans jcN (Nat.le_of_ble_eq_true rfl)) ?_
            cases h
            exact J.vret d_R_takeJoint_100 rfl rfl
        · rw [if_neg c] at h
          refine J.aload_n 1 d_R_takeJoint_50 rfl rfl ?_
          refine J.getF (n := 23) hG d_R_takeJoint_51 fl_R_28 ck_21_10 rfl ?_
          refine J.aload_n 1 d_R_takeJoint_54 rfl rfl ?_
          refine J.nop (pc' := 55) rfl ?_
          refine J.getI hG d_R_takeJoint_55 fl_R_143 ck_21_9 ?_
          refine J.iload_n 0 d_R_takeJoint_58 rfl rfl ?_
          obtain ⟨m51, hm51, g, h⟩ := jst_some h
          refine J.zs hG d_R_takeJoint_59 g hm51 ?_
          refine J.aload_n 1 d_R_takeJoint_60 rfl rfl ?_
          refine J.aload_n 1 d_R_takeJoint_61 rfl rfl ?_
          refine J.getM hG d_R_takeJoint_62 fl_R_15 ck_21_2 ?_
          obtain ⟨g, h⟩ := jgd_some h
          obtain ⟨x52, ex52, h⟩ := jlt_some h
          refine J.gkR d_R_takeJoint_65 g (Or.inr ⟨"CitingLetters", jn_8 228 rfl rfl⟩) ex52 ?_
          refine J.iconst (v := (4 : Int32)) d_R_takeJoint_68 ki_4 ?_
          refine J.nop (pc' := 69) rfl ?_
          refine J.icmp_ge 76 d_R_takeJoint_69 rfl (fun c => ?_) (fun c => ?_)
          · rw [if_pos c] at h
            refine J.iconst (v := (0 : Int32)) d_R_takeJoint_76 ki_0 ?_
            obtain ⟨m53, hm53, h⟩ := jpu_some h
            refine J.putZ hG d_R_takeJoint_77 fl_R_150 fp_2_12 ck_21_12 (Or.inl rfl) hm53 ?_
            refine J.aload_n 1 d_R_takeJoint_80 rfl rfl ?_
            refine J.iconst (v := (1 : Int32)) d_R_takeJoint_81 ki_1 ?_
            obtain ⟨m54, hm54, h⟩ := jpu_some h
            refine J.putZ hG d_R_takeJoint_82 fl_R_146 fp_2_11 ck_21_11 (Or.inr rfl) hm54 ?_
            refine J.aload_n 1 d_R_takeJoint_85 rfl rfl ?_
            refine J.aload_n 1 d_R_takeJoint_86 rfl rfl ?_
            refine J.getM hG d_R_takeJoint_87 fl_R_15 ck_21_2 ?_
            refine J.nop (pc' := 90) rfl ?_
            obtain ⟨g, h⟩ := jgd_some h
            obtain ⟨x55, ex55, h⟩ := jlt_some h
            refine J.gkR d_R_takeJoint_90 g (Or.inr ⟨"CitingLetters", jn_8 228 rfl rfl⟩) ex55 ?_
            obtain ⟨u56, m57, zm57, h⟩ := jbd_some h
            refine J.cVv Y_R_settle (As := [.int x55]) (rest := []) hG d_R_takeJoint_93 mi_R_settle mv_R_settle lk_R_165 ⟨rfl, rfl, Nat.le_of_ble_eq_true rfl⟩ cq_21 cc_2 (c_R_settle hG zm57) rfl (Nat.le_trans jcN (Nat.le_of_ble_eq_true rfl)) ?_
            refine J.aload_n 1 d_R_takeJoint_96 rfl rfl ?_
            obtain ⟨u58, m59, zm59, h⟩ := jbd_some h
            refine J.cVv Y_R_takePending (As := []) (rest := []) hG d_R_takeJoint_97 mi_R_takePending mv_R_takePending lk_R_183 ⟨rfl, rfl, Nat.le_of_ble_eq_true rfl⟩ cq_21 cc_2 (c_R_takePending hG zm59) rfl (Nat.le_trans jcN (Nat.le_of_ble_eq_true rfl)) ?_
            cases h
            exact J.vret d_R_takeJoint_100 rfl rfl
          · rw [if_neg c] at h
            refine J.iconst (v := (1 : Int32)) d_R_takeJoint_72 ki_1 ?_
            refine J.goto 77 d_R_takeJoint_73 rfl ?_
            obtain ⟨m60, hm60, h⟩ := jpu_some h
            refine J.putZ hG d_R_takeJoint_77 fl_R_150 fp_2_12 ck_21_12 (Or.inr rfl) hm60 ?_
            refine J.aload_n 1 d_R_takeJoint_80 rfl rfl ?_
            refine J.iconst (v := (1 : Int32)) d_R_takeJoint_81 ki_1 ?_
            obtain ⟨m61, hm61, h⟩ := jpu_some h
            refine J.putZ hG d_R_takeJoint_82 fl_R_146 fp_2_11 ck_21_11 (Or.inr rfl) hm61 ?_
            refine J.aload_n 1 d_R_takeJoint_85 rfl rfl ?_
            refine J.aload_n 1 d_R_takeJoint_86 rfl rfl ?_
            refine J.getM hG d_R_takeJoint_87 fl_R_15 ck_21_2 ?_
            obtain ⟨g, h⟩ := jgd_some h
            obtain ⟨x62, ex62, h⟩ := jlt_some h
            refine J.gkR d_R_takeJoint_90 g (Or.inr ⟨"CitingLetters", jn_8 228 rfl rfl⟩) ex62 ?_
            refine J.nop (pc' := 93) rfl ?_
            obtain ⟨u63, m64, zm64, h⟩ := jbd_some h
            refine J.cVv Y_R_settle (As := [.int x62]) (rest := []) hG d_R_takeJoint_93 mi_R_settle mv_R_settle lk_R_165 ⟨rfl, rfl, Nat.le_of_ble_eq_true rfl⟩ cq_21 cc_2 (c_R_settle hG zm64) rfl (Nat.le_trans jcN (Nat.le_of_ble_eq_true rfl)) ?_
            refine J.aload_n 1 d_R_takeJoint_96 rfl rfl ?_
            obtain ⟨u65, m66, zm66, h⟩ := jbd_some h
            refine J.cVv Y_R_takePending (As := []) (rest := []) hG d_R_takeJoint_97 mi_R_takePending mv_R_takePending lk_R_183 ⟨rfl, rfl, Nat.le_of_ble_eq_true rfl⟩ cq_21 cc_2 (c_R_takePending hG zm66) rfl (Nat.le_trans jcN (Nat.le_of_ble_eq_true rfl)) ?_
            cases h
            exact J.vret d_R_takeJoint_100 rfl rfl
      · rw [if_neg c] at h
        refine J.aload_n 1 d_R_takeJoint_33 rfl rfl ?_
        refine J.iconst (v := (1 : Int32)) d_R_takeJoint_34 ki_1 ?_
        obtain ⟨u67, m68, zm68, h⟩ := jbd_some h
        refine J.cVv Y_R_fail (As := [.int (1 : Int32)]) (rest := []) hG d_R_takeJoint_35 mi_R_fail mv_R_fail lk_R_78 ⟨rfl, rfl, Nat.le_of_ble_eq_true rfl⟩ cq_21 cc_2 (c_R_fail hG zm68) rfl (Nat.le_trans jcN (Nat.le_of_ble_eq_true rfl)) ?_
        cases h
        exact J.vret d_R_takeJoint_38 rfl rfl
  · rw [if_pos c] at h
    refine J.iconst (v := (1 : Int32)) d_R_takeJoint_11 ki_1 ?_
    refine J.goto 16 d_R_takeJoint_12 rfl ?_
    refine J.istore_n (lv := [(1, .int (1 : Int32)), (0, jr G 21)]) d_R_takeJoint_16 rfl (by decide) rfl ?_
    refine J.iload_n 0 d_R_takeJoint_17 rfl rfl ?_
    refine J.if_eq 39 d_R_takeJoint_18 rfl (fun c => ?_) (fun c => ?_)
    · rw [if_pos c] at h
      refine J.aload_n 1 d_R_takeJoint_39 rfl rfl ?_
      refine J.getM hG d_R_takeJoint_40 fl_R_15 ck_21_2 ?_
      obtain ⟨g, h⟩ := jgd_some h
      obtain ⟨x69, ex69, h⟩ := jlt_some h
      refine J.gkR d_R_takeJoint_43 g (Or.inr ⟨"CitingLetters", jn_8 228 rfl rfl⟩) ex69 ?_
      refine J.iconst (v := (4 : Int32)) d_R_takeJoint_46 ki_4 ?_
      refine J.icmp_gt 60 d_R_takeJoint_47 rfl (fun c => ?_) (fun c => ?_)
      · rw [if_pos c] at h
        refine J.aload_n 1 d_R_takeJoint_60 rfl rfl ?_
        refine J.aload_n 1 d_R_takeJoint_61 rfl rfl ?_
        refine J.getM hG d_R_takeJoint_62 fl_R_15 ck_21_2 ?_
        obtain ⟨g, h⟩ := jgd_some h
        obtain ⟨x70, ex70, h⟩ := jlt_some h
        refine J.gkR d_R_takeJoint_65 g (Or.inr ⟨"CitingLetters", jn_8 228 rfl rfl⟩) ex70 ?_
        refine J.iconst (v := (4 : Int32)) d_R_takeJoint_68 ki_4 ?_
        refine J.icmp_ge 76 d_R_takeJoint_69 rfl (fun c => ?_) (fun c => ?_)
        · rw [if_pos c] at h
          refine J.iconst (v := (0 : Int32)) d_R_takeJoint_76 ki_0 ?_
          obtain ⟨m71, hm71, h⟩ := jpu_some h
          refine J.putZ hG d_R_takeJoint_77 fl_R_150 fp_2_12 ck_21_12 (Or.inl rfl) hm71 ?_
          refine J.aload_n 1 d_R_takeJoint_80 rfl rfl ?_
          refine J.iconst (v := (1 : Int32)) d_R_takeJoint_81 ki_1 ?_
          obtain ⟨m72, hm72, h⟩ := jpu_some h
          refine J.putZ hG d_R_takeJoint_82 fl_R_146 fp_2_11 ck_21_11 (Or.inr rfl) hm72 ?_
          refine J.aload_n 1 d_R_takeJoint_85 rfl rfl ?_
          refine J.aload_n 1 d_R_takeJoint_86 rfl rfl ?_
          refine J.getM hG d_R_takeJoint_87 fl_R_15 ck_21_2 ?_
          refine J.nop (pc' := 90) rfl ?_
          obtain ⟨g, h⟩ := jgd_some h
          obtain ⟨x73, ex73, h⟩ := jlt_some h
          refine J.gkR d_R_takeJoint_90 g (Or.inr ⟨"CitingLetters", jn_8 228 rfl rfl⟩) ex73 ?_
          obtain ⟨u74, m75, zm75, h⟩ := jbd_some h
          refine J.cVv Y_R_settle (As := [.int x73]) (rest := []) hG d_R_takeJoint_93 mi_R_settle mv_R_settle lk_R_165 ⟨rfl, rfl, Nat.le_of_ble_eq_true rfl⟩ cq_21 cc_2 (c_R_settle hG zm75) rfl (Nat.le_trans jcN (Nat.le_of_ble_eq_true rfl)) ?_
          refine J.aload_n 1 d_R_takeJoint_96 rfl rfl ?_
          obtain ⟨u76, m77, zm77, h⟩ := jbd_some h
          refine J.cVv Y_R_takePending (As := []) (rest := []) hG d_R_takeJoint_97 mi_R_takePending mv_R_takePending lk_R_183 ⟨rfl, rfl, Nat.le_of_ble_eq_true rfl⟩ cq_21 cc_2 (c_R_takePending hG zm77) rfl (Nat.le_trans jcN (Nat.le_of_ble_eq_true rfl)) ?_
          cases h
          exact J.vret d_R_takeJoint_100 rfl rfl
        · rw [if_neg c] at h
          refine J.iconst (v := (1 : Int32)) d_R_takeJoint_72 ki_1 ?_
          refine J.goto 77 d_R_takeJoint_73 rfl ?_
          obtain ⟨m78, hm78, h⟩ := jpu_some h
          refine J.putZ hG d_R_takeJoint_77 fl_R_150 fp_2_12 ck_21_12 (Or.inr rfl) hm78 ?_
          refine J.aload_n 1 d_R_takeJoint_80 rfl rfl ?_
          refine J.iconst (v := (1 : Int32)) d_R_takeJoint_81 ki_1 ?_
          obtain ⟨m79, hm79, h⟩ := jpu_some h
          refine J.putZ hG d_R_takeJoint_82 fl_R_146 fp_2_11 ck_21_11 (Or.inr rfl) hm79 ?_
          refine J.aload_n 1 d_R_takeJoint_85 rfl rfl ?_
          refine J.aload_n 1 d_R_takeJoint_86 rfl rfl ?_
          refine J.getM hG d_R_takeJoint_87 fl_R_15 ck_21_2 ?_
          obtain ⟨g, h⟩ := jgd_some h
          obtain ⟨x80, ex80, h⟩ := jlt_some h
          refine J.gkR d_R_takeJoint_90 g (Or.inr ⟨"CitingLetters", jn_8 228 rfl rfl⟩) ex80 ?_
          refine J.nop (pc' := 93) rfl ?_
          obtain ⟨u81, m82, zm82, h⟩ := jbd_some h
          refine J.cVv Y_R_settle (As := [.int x80]) (rest := []) hG d_R_takeJoint_93 mi_R_settle mv_R_settle lk_R_165 ⟨rfl, rfl, Nat.le_of_ble_eq_true rfl⟩ cq_21 cc_2 (c_R_settle hG zm82) rfl (Nat.le_trans jcN (Nat.le_of_ble_eq_true rfl)) ?_
          refine J.aload_n 1 d_R_takeJoint_96 rfl rfl ?_
          obtain ⟨u83, m84, zm84, h⟩ := jbd_some h
          refine J.cVv Y_R_takePending (As := []) (rest := []) hG d_R_takeJoint_97 mi_R_takePending mv_R_takePending lk_R_183 ⟨rfl, rfl, Nat.le_of_ble_eq_true rfl⟩ cq_21 cc_2 (c_R_takePending hG zm84) rfl (Nat.le_trans jcN (Nat.le_of_ble_eq_true rfl)) ?_
          cases h
          exact J.vret d_R_takeJoint_100 rfl rfl
      · rw [if_neg c] at h
        refine J.aload_n 1 d_R_takeJoint_50 rfl rfl ?_
        refine J.getF (n := 23) hG d_R_takeJoint_51 fl_R_28 ck_21_10 rfl ?_
        refine J.aload_n 1 d_R_takeJoint_54 rfl rfl ?_
        refine J.nop (pc' := 55) rfl ?_
        refine J.getI hG d_R_takeJoint_55 fl_R_143 ck_21_9 ?_
        refine J.iload_n 0 d_R_takeJoint_58 rfl rfl ?_
        obtain ⟨m85, hm85, g, h⟩ := jst_some h
        refine J.zs hG d_R_takeJoint_59 g hm85 ?_
        refine J.aload_n 1 d_R_takeJoint_60 rfl rfl ?_
        refine J.aload_n 1 d_R_takeJoint_61 rfl rfl ?_
        refine J.getM hG d_R_takeJoint_62 fl_R_15 ck_21_2 ?_
        obtain ⟨g, h⟩ := jgd_some h
        obtain ⟨x86, ex86, h⟩ := jlt_some h
        refine J.gkR d_R_takeJoint_65 g (Or.inr ⟨"CitingLetters", jn_8 228 rfl rfl⟩) ex86 ?_
        refine J.iconst (v := (4 : Int32)) d_R_takeJoint_68 ki_4 ?_
        refine J.nop (pc' := 69) rfl ?_
        refine J.icmp_ge 76 d_R_takeJoint_69 rfl (fun c => ?_) (fun c => ?_)
        · rw [if_pos c] at h
          refine J.iconst (v := (0 : Int32)) d_R_takeJoint_76 ki_0 ?_
          obtain ⟨m87, hm87, h⟩ := jpu_some h
          refine J.putZ hG d_R_takeJoint_77 fl_R_150 fp_2_12 ck_21_12 (Or.inl rfl) hm87 ?_
          refine J.aload_n 1 d_R_takeJoint_80 rfl rfl ?_
          refine J.iconst (v := (1 : Int32)) d_R_takeJoint_81 ki_1 ?_
          obtain ⟨m88, hm88, h⟩ := jpu_some h
          refine J.putZ hG d_R_takeJoint_82 fl_R_146 fp_2_11 ck_21_11 (Or.inr rfl) hm88 ?_
          refine J.aload_n 1 d_R_takeJoint_85 rfl rfl ?_
          refine J.aload_n 1 d_R_takeJoint_86 rfl rfl ?_
          refine J.getM hG d_R_takeJoint_87 fl_R_15 ck_21_2 ?_
          refine J.nop (pc' := 90) rfl ?_
          obtain ⟨g, h⟩ := jgd_some h
          obtain ⟨x89, ex89, h⟩ := jlt_some h
          refine J.gkR d_R_takeJoint_90 g (Or.inr ⟨"CitingLetters", jn_8 228 rfl rfl⟩) ex89 ?_
          obtain ⟨u90, m91, zm91, h⟩ := jbd_some h
          refine J.cVv Y_R_settle (As := [.int x89]) (rest := []) hG d_R_takeJoint_93 mi_R_settle mv_R_settle lk_R_165 ⟨rfl, rfl, Nat.le_of_ble_eq_true rfl⟩ cq_21 cc_2 (c_R_settle hG zm91) rfl (Nat.le_trans jcN (Nat.le_of_ble_eq_true rfl)) ?_
          refine J.aload_n 1 d_R_takeJoint_96 rfl rfl ?_
          obtain ⟨u92, m93, zm93, h⟩ := jbd_some h
          refine J.cVv Y_R_takePending (As := []) (rest := []) hG d_R_takeJoint_97 mi_R_takePending mv_R_takePending lk_R_183 ⟨rfl, rfl, Nat.le_of_ble_eq_true rfl⟩ cq_21 cc_2 (c_R_takePending hG zm93) rfl (Nat.le_trans jcN (Nat.le_of_ble_eq_true rfl)) ?_
          cases h
          exact J.vret d_R_takeJoint_100 rfl rfl
        · rw [if_neg c] at h
          refine J.iconst (v := (1 : Int32)) d_R_takeJoint_72 ki_1 ?_
          refine J.goto 77 d_R_takeJoint_73 rfl ?_
          obtain ⟨m94, hm94, h⟩ := jpu_some h
          refine J.putZ hG d_R_takeJoint_77 fl_R_150 fp_2_12 ck_21_12 (Or.inr rfl) hm94 ?_
          refine J.aload_n 1 d_R_takeJoint_80 rfl rfl ?_
          refine J.iconst (v := (1 : Int32)) d_R_takeJoint_81 ki_1 ?_
          obtain ⟨m95, hm95, h⟩ := jpu_some h
          refine J.putZ hG d_R_takeJoint_82 fl_R_146 fp_2_11 ck_21_11 (Or.inr rfl) hm95 ?_
          refine J.aload_n 1 d_R_takeJoint_85 rfl rfl ?_
          refine J.aload_n 1 d_R_takeJoint_86 rfl rfl ?_
          refine J.getM hG d_R_takeJoint_87 fl_R_15 ck_21_2 ?_
          obtain ⟨g, h⟩ := jgd_some h
          obtain ⟨x96, ex96, h⟩ := jlt_some h
          refine J.gkR d_R_takeJoint_90 g (Or.inr ⟨"CitingLetters", jn_8 228 rfl rfl⟩) ex96 ?_
          refine J.nop (pc' := 93) rfl ?_
          obtain ⟨u97, m98, zm98, h⟩ := jbd_some h
          refine J.cVv Y_R_settle (As := [.int x96]) (rest := []) hG d_R_takeJoint_93 mi_R_settle mv_R_settle lk_R_165 ⟨rfl, rfl, Nat.le_of_ble_eq_true rfl⟩ cq_21 cc_2 (c_R_settle hG zm98) rfl (Nat.le_trans jcN (Nat.le_of_ble_eq_true rfl)) ?_
          refine J.aload_n 1 d_R_takeJoint_96 rfl rfl ?_
          obtain ⟨u99, m100, zm100, h⟩ := jbd_some h
          refine J.cVv Y_R_takePending (As := []) (rest := []) hG d_R_takeJoint_97 mi_R_takePending mv_R_takePending lk_R_183 ⟨rfl, rfl, Nat.le_of_ble_eq_true rfl⟩ cq_21 cc_2 (c_R_takePending hG zm100) rfl (Nat.le_trans jcN (Nat.le_of_ble_eq_true rfl)) ?_
          cases h
          exact J.vret d_R_takeJoint_100 rfl rfl
    · rw [if_neg c] at h
      refine J.aload_n 1 d_R_takeJoint_21 rfl rfl ?_
      refine J.getF (n := 23) hG d_R_takeJoint_22 fl_R_28 ck_21_10 rfl ?_
      refine J.aload_n 1 d_R_takeJoint_25 rfl rfl ?_
      refine J.getI hG d_R_takeJoint_26 fl_R_143 ck_21_9 ?_
      obtain ⟨x101, ex101, g, h⟩ := jld_some h
      refine J.zl hG d_R_takeJoint_29 g ex101 ?_
      refine J.nop (pc' := 30) rfl ?_
      refine J.if_eq 39 d_R_takeJoint_30 rfl (fun c => ?_) (fun c => ?_)
      · rw [if_pos c] at h
        refine J.aload_n 1 d_R_takeJoint_39 rfl rfl ?_
        refine J.getM hG d_R_takeJoint_40 fl_R_15 ck_21_2 ?_
        obtain ⟨g, h⟩ := jgd_some h
        obtain ⟨x102, ex102, h⟩ := jlt_some h
        refine J.gkR d_R_takeJoint_43 g (Or.inr ⟨"CitingLetters", jn_8 228 rfl rfl⟩) ex102 ?_
        refine J.iconst (v := (4 : Int32)) d_R_takeJoint_46 ki_4 ?_
        refine J.icmp_gt 60 d_R_takeJoint_47 rfl (fun c => ?_) (fun c => ?_)
        · rw [if_pos c] at h
          refine J.aload_n 1 d_R_takeJoint_60 rfl rfl ?_
          refine J.aload_n 1 d_R_takeJoint_61 rfl rfl ?_
          refine J.getM hG d_R_takeJoint_62 fl_R_15 ck_21_2 ?_
          obtain ⟨g, h⟩ := jgd_some h
          obtain ⟨x103, ex103, h⟩ := jlt_some h
          refine J.gkR d_R_takeJoint_65 g (Or.inr ⟨"CitingLetters", jn_8 228 rfl rfl⟩) ex103 ?_
          refine J.iconst (v := (4 : Int32)) d_R_takeJoint_68 ki_4 ?_
          refine J.icmp_ge 76 d_R_takeJoint_69 rfl (fun c => ?_) (fun c => ?_)
          · rw [if_pos c] at h
            refine J.iconst (v := (0 : Int32)) d_R_takeJoint_76 ki_0 ?_
            obtain ⟨m104, hm104, h⟩ := jpu_some h
            refine J.putZ hG d_R_takeJoint_77 fl_R_150 fp_2_12 ck_21_12 (Or.inl rfl) hm104 ?_
            refine J.aload_n 1 d_R_takeJoint_80 rfl rfl ?_
            refine J.iconst (v := (1 : Int32)) d_R_takeJoint_81 ki_1 ?_
            obtain ⟨m105, hm105, h⟩ := jpu_some h
            refine J.putZ hG d_R_takeJoint_82 fl_R_146 fp_2_11 ck_21_11 (Or.inr rfl) hm105 ?_
            refine J.aload_n 1 d_R_takeJoint_85 rfl rfl ?_
            refine J.aload_n 1 d_R_takeJoint_86 rfl rfl ?_
            refine J.getM hG d_R_takeJoint_87 fl_R_15 ck_21_2 ?_
            refine J.nop (pc' := 90) rfl ?_
            obtain ⟨g, h⟩ := jgd_some h
            obtain ⟨x106, ex106, h⟩ := jlt_some h
            refine J.gkR d_R_takeJoint_90 g (Or.inr ⟨"CitingLetters", jn_8 228 rfl rfl⟩) ex106 ?_
            obtain ⟨u107, m108, zm108, h⟩ := jbd_some h
            refine J.cVv Y_R_settle (As := [.int x106]) (rest := []) hG d_R_takeJoint_93 mi_R_settle mv_R_settle lk_R_165 ⟨rfl, rfl, Nat.le_of_ble_eq_true rfl⟩ cq_21 cc_2 (c_R_settle hG zm108) rfl (Nat.le_trans jcN (Nat.le_of_ble_eq_true rfl)) ?_
            refine J.aload_n 1 d_R_takeJoint_96 rfl rfl ?_
            obtain ⟨u109, m110, zm110, h⟩ := jbd_some h
            refine J.cVv Y_R_takePending (As := []) (rest := []) hG d_R_takeJoint_97 mi_R_takePending mv_R_takePending lk_R_183 ⟨rfl, rfl, Nat.le_of_ble_eq_true rfl⟩ cq_21 cc_2 (c_R_takePending hG zm110) rfl (Nat.le_trans jcN (Nat.le_of_ble_eq_true rfl)) ?_
            cases h
            exact J.vret d_R_takeJoint_100 rfl rfl
          · rw [if_neg c] at h
            refine J.iconst (v := (1 : Int32)) d_R_takeJoint_72 ki_1 ?_
            refine J.goto 77 d_R_takeJoint_73 rfl ?_
            obtain ⟨m111, hm111, h⟩ := jpu_some h
            refine J.putZ hG d_R_takeJoint_77 fl_R_150 fp_2_12 ck_21_12 (Or.inr rfl) hm111 ?_
            refine J.aload_n 1 d_R_takeJoint_80 rfl rfl ?_
            refine J.iconst (v := (1 : Int32)) d_R_takeJoint_81 ki_1 ?_
            obtain ⟨m112, hm112, h⟩ := jpu_some h
            refine J.putZ hG d_R_takeJoint_82 fl_R_146 fp_2_11 ck_21_11 (Or.inr rfl) hm112 ?_
            refine J.aload_n 1 d_R_takeJoint_85 rfl rfl ?_
            refine J.aload_n 1 d_R_takeJoint_86 rfl rfl ?_
            refine J.getM hG d_R_takeJoint_87 fl_R_15 ck_21_2 ?_
            obtain ⟨g, h⟩ := jgd_some h
            obtain ⟨x113, ex113, h⟩ := jlt_some h
            refine J.gkR d_R_takeJoint_90 g (Or.inr ⟨"CitingLetters", jn_8 228 rfl rfl⟩) ex113 ?_
            refine J.nop (pc' := 93) rfl ?_
            obtain ⟨u114, m115, zm115, h⟩ := jbd_some h
            refine J.cVv Y_R_settle (As := [.int x113]) (rest := []) hG d_R_takeJoint_93 mi_R_settle mv_R_settle lk_R_165 ⟨rfl, rfl, Nat.le_of_ble_eq_true rfl⟩ cq_21 cc_2 (c_R_settle hG zm115) rfl (Nat.le_trans jcN (Nat.le_of_ble_eq_true rfl)) ?_
            refine J.aload_n 1 d_R_takeJoint_96 rfl rfl ?_
            obtain ⟨u116, m117, zm117, h⟩ := jbd_some h
            refine J.cVv Y_R_takePending (As := []) (rest := []) hG d_R_takeJoint_97 mi_R_takePending mv_R_takePending lk_R_183 ⟨rfl, rfl, Nat.le_of_ble_eq_true rfl⟩ cq_21 cc_2 (c_R_takePending hG zm117) rfl (Nat.le_trans jcN (Nat.le_of_ble_eq_true rfl)) ?_
            cases h
            exact J.vret d_R_takeJoint_100 rfl rfl
        · rw [if_neg c] at h
          refine J.aload_n 1 d_R_takeJoint_50 rfl rfl ?_
          refine J.getF (n := 23) hG d_R_takeJoint_51 fl_R_28 ck_21_10 rfl ?_
          refine J.aload_n 1 d_R_takeJoint_54 rfl rfl ?_
          refine J.nop (pc' := 55) rfl ?_
          refine J.getI hG d_R_takeJoint_55 fl_R_143 ck_21_9 ?_
          refine J.iload_n 0 d_R_takeJoint_58 rfl rfl ?_
          obtain ⟨m118, hm118, g, h⟩ := jst_some h
          refine J.zs hG d_R_takeJoint_59 g hm118 ?_
          refine J.aload_n 1 d_R_takeJoint_60 rfl rfl ?_
          refine J.aload_n 1 d_R_takeJoint_61 rfl rfl ?_
          refine J.getM hG d_R_takeJoint_62 fl_R_15 ck_21_2 ?_
          obtain ⟨g, h⟩ := jgd_some h
          obtain ⟨x119, ex119, h⟩ := jlt_some h
          refine J.gkR d_R_takeJoint_65 g (Or.inr ⟨"CitingLetters", jn_8 228 rfl rfl⟩) ex119 ?_
          refine J.iconst (v := (4 : Int32)) d_R_takeJoint_68 ki_4 ?_
          refine J.nop (pc' := 69) rfl ?_
          refine J.icmp_ge 76 d_R_takeJoint_69 rfl (fun c => ?_) (fun c => ?_)
          · rw [if_pos c] at h
            refine J.iconst (v := (0 : Int32)) d_R_takeJoint_76 ki_0 ?_
            obtain ⟨m120, hm120, h⟩ := jpu_some h
            refine J.putZ hG d_R_takeJoint_77 fl_R_150 fp_2_12 ck_21_12 (Or.inl rfl) hm120 ?_
            refine J.aload_n 1 d_R_takeJoint_80 rfl rfl ?_
            refine J.iconst (v := (1 : Int32)) d_R_takeJoint_81 ki_1 ?_
            obtain ⟨m121, hm121, h⟩ := jpu_some h
            refine J.putZ hG d_R_takeJoint_82 fl_R_146 fp_2_11 ck_21_11 (Or.inr rfl) hm121 ?_
            refine J.aload_n 1 d_R_takeJoint_85 rfl rfl ?_
            refine J.aload_n 1 d_R_takeJoint_86 rfl rfl ?_
            refine J.getM hG d_R_takeJoint_87 fl_R_15 ck_21_2 ?_
            refine J.nop (pc' := 90) rfl ?_
            obtain ⟨g, h⟩ := jgd_some h
            obtain ⟨x122, ex122, h⟩ := jlt_some h
            refine J.gkR d_R_takeJoint_90 g (Or.inr ⟨"CitingLetters", jn_8 228 rfl rfl⟩) ex122 ?_
            obtain ⟨u123, m124, zm124, h⟩ := jbd_some h
            refine J.cVv Y_R_settle (As := [.int x122]) (rest := []) hG d_R_takeJoint_93 mi_R_settle mv_R_settle lk_R_165 ⟨rfl, rfl, Nat.le_of_ble_eq_true rfl⟩ cq_21 cc_2 (c_R_settle hG zm124) rfl (Nat.le_trans jcN (Nat.le_of_ble_eq_true rfl)) ?_
            refine J.aload_n 1 d_R_takeJoint_96 rfl rfl ?_
            obtain ⟨u125, m126, zm126, h⟩ := jbd_some h
            refine J.cVv Y_R_takePending (As := []) (rest := []) hG d_R_takeJoint_97 mi_R_takePending mv_R_takePending lk_R_183 ⟨rfl, rfl, Nat.le_of_ble_eq_true rfl⟩ cq_21 cc_2 (c_R_takePending hG zm126) rfl (Nat.le_trans jcN (Nat.le_of_ble_eq_true rfl)) ?_
            cases h
            exact J.vret d_R_takeJoint_100 rfl rfl
          · rw [if_neg c] at h
            refine J.iconst (v := (1 : Int32)) d_R_takeJoint_72 ki_1 ?_
            refine J.goto 77 d_R_takeJoint_73 rfl ?_
            obtain ⟨m127, hm127, h⟩ := jpu_some h
            refine J.putZ hG d_R_takeJoint_77 fl_R_150 fp_2_12 ck_21_12 (Or.inr rfl) hm127 ?_
            refine J.aload_n 1 d_R_takeJoint_80 rfl rfl ?_
            refine J.iconst (v := (1 : Int32)) d_R_takeJoint_81 ki_1 ?_
            obtain ⟨m128, hm128, h⟩ := jpu_some h
            refine J.putZ hG d_R_takeJoint_82 fl_R_146 fp_2_11 ck_21_11 (Or.inr rfl) hm128 ?_
            refine J.aload_n 1 d_R_takeJoint_85 rfl rfl ?_
            refine J.aload_n 1 d_R_takeJoint_86 rfl rfl ?_
            refine J.getM hG d_R_takeJoint_87 fl_R_15 ck_21_2 ?_
            obtain ⟨g, h⟩ := jgd_some h
            obtain ⟨x129, ex129, h⟩ := jlt_some h
            refine J.gkR d_R_takeJoint_90 g (Or.inr ⟨"CitingLetters", jn_8 228 rfl rfl⟩) ex129 ?_
            refine J.nop (pc' := 93) rfl ?_
            obtain ⟨u130, m131, zm131, h⟩ := jbd_some h
            refine J.cVv Y_R_settle (As := [.int x129]) (rest := []) hG d_R_takeJoint_93 mi_R_settle mv_R_settle lk_R_165 ⟨rfl, rfl, Nat.le_of_ble_eq_true rfl⟩ cq_21 cc_2 (c_R_settle hG zm131) rfl (Nat.le_trans jcN (Nat.le_of_ble_eq_true rfl)) ?_
            refine J.aload_n 1 d_R_takeJoint_96 rfl rfl ?_
            obtain ⟨u132, m133, zm133, h⟩ := jbd_some h
            refine J.cVv Y_R_takePending (As := []) (rest := []) hG d_R_takeJoint_97 mi_R_takePending mv_R_takePending lk_R_183 ⟨rfl, rfl, Nat.le_of_ble_eq_true rfl⟩ cq_21 cc_2 (c_R_takePending hG zm133) rfl (Nat.le_trans jcN (Nat.le_of_ble_eq_true rfl)) ?_
            cases h
            exact J.vret d_R_takeJoint_100 rfl rfl
      · rw [if_neg c] at h
        refine J.aload_n 1 d_R_takeJoint_33 rfl rfl ?_
        refine J.iconst (v := (1 : Int32)) d_R_takeJoint_34 ki_1 ?_
        obtain ⟨u134, m135, zm135, h⟩ := jbd_some h
        refine J.cVv Y_R_fail (As := [.int (1 : Int32)]) (rest := []) hG d_R_takeJoint_35 mi_R_fail mv_R_fail lk_R_78 ⟨rfl, rfl, Nat.le_of_ble_eq_true rfl⟩ cq_21 cc_2 (c_R_fail hG zm135) rfl (Nat.le_trans jcN (Nat.le_of_ble_eq_true rfl)) ?_
        cases h
        exact J.vret d_R_takeJoint_38 rfl rfl

def f_R_openBracket (m : jMem) : Option (Unit × jMem) :=
  if (m 21 9) < (8 : Int32) then
    jpu m 21 9 ((m 21 9) + (1 : Int32)) fun m1 =>
    jst 2 m1 23 (m1 21 9) (jbz (0 : Int32)) fun m2 =>
    jpu m2 21 12 (1 : Int32) fun m3 =>
    jbd (f_R_pend m3) fun u4 m5 =>
    jbd (f_R_stepTo ((m5 21 1) + (1 : Int32)) m5) fun u6 m7 =>
    some ((), m7)
  else
    jbd (f_R_fail (2 : Int32) m) fun u8 m9 =>
    some ((), m9)
theorem c_R_openBracket {G : jG} (hG : jFul G) {m : jMem} {r : (Unit × jMem)} (h : f_R_openBracket m = some r) : jCt G Y_R_openBracket [jr G 21] m (jrv r) := by
  refine jCt.ov (ls := [(0, jr G 21)]) mi_R_openBracket (jAvR jAvN) (Nat.le_of_ble_eq_true rfl) ?_ ⟨rfl, rfl⟩
  unfold f_R_openBracket at h
  refine J.aload_n 0 d_R_openBracket_0 rfl rfl ?_
  refine J.getI hG d_R_openBracket_1 fl_R_143 ck_21_9 ?_
  refine J.bipush (v := (8 : Int32)) d_R_openBracket_4 kb_8 ?_
  refine J.icmp_lt 15 d_R_openBracket_6 rfl (fun c => ?_) (fun c => ?_)
  · rw [if_pos c] at h
    refine J.aload_n 0 d_R_openBracket_15 rfl rfl ?_
    refine J.dup d_R_openBracket_16 (jr_cat _ _) ?_
    refine J.getI hG d_R_openBracket_17 fl_R_143 ck_21_9 ?_
    refine J.iconst (v := (1 : Int32)) d_R_openBracket_20 ki_1 ?_
    refine J.iadd d_R_openBracket_21 ?_
    obtain ⟨m1, hm1, h⟩ := jpu_some h
    refine J.putI hG d_R_openBracket_22 fl_R_143 fp_2_9 ck_21_9 hm1 ?_
    refine J.aload_n 0 d_R_openBracket_25 rfl rfl ?_
    refine J.getF (n := 23) hG d_R_openBracket_26 fl_R_28 ck_21_10 rfl ?_
    refine J.nop (pc' := 29) rfl ?_
    refine J.aload_n 0 d_R_openBracket_29 rfl rfl ?_
    refine J.getI hG d_R_openBracket_30 fl_R_143 ck_21_9 ?_
    refine J.iconst (v := (0 : Int32)) d_R_openBracket_33 ki_0 ?_
    obtain ⟨m2, hm2, g, h⟩ := jst_some h
    refine J.zs hG d_R_openBracket_34 g hm2 ?_
    refine J.aload_n 0 d_R_openBracket_35 rfl rfl ?_
    refine J.iconst (v := (1 : Int32)) d_R_openBracket_36 ki_1 ?_
    obtain ⟨m3, hm3, h⟩ := jpu_some h
    refine J.putZ hG d_R_openBracket_37 fl_R_150 fp_2_12 ck_21_12 (Or.inr rfl) hm3 ?_
    refine J.aload_n 0 d_R_openBracket_40 rfl rfl ?_
    refine J.nop (pc' := 41) rfl ?_
    obtain ⟨u4, m5, zm5, h⟩ := jbd_some h
    refine J.cVv Y_R_pend (As := []) (rest := []) hG d_R_openBracket_41 mi_R_pend mv_R_pend lk_R_186 ⟨rfl, rfl, Nat.le_of_ble_eq_true rfl⟩ cq_21 cc_2 (c_R_pend hG zm5) rfl (Nat.le_trans jcN (Nat.le_of_ble_eq_true rfl)) ?_
    refine J.aload_n 0 d_R_openBracket_44 rfl rfl ?_
    refine J.aload_n 0 d_R_openBracket_45 rfl rfl ?_
    refine J.getI hG d_R_openBracket_46 fl_R_81 ck_21_1 ?_
    refine J.iconst (v := (1 : Int32)) d_R_openBracket_49 ki_1 ?_
    refine J.iadd d_R_openBracket_50 ?_
    obtain ⟨u6, m7, zm7, h⟩ := jbd_some h
    refine J.cVv Y_R_stepTo (As := [.int ((m5 21 1) + (1 : Int32))]) (rest := []) hG d_R_openBracket_51 mi_R_stepTo mv_R_stepTo lk_R_57 ⟨rfl, rfl, Nat.le_of_ble_eq_true rfl⟩ cq_21 cc_2 (c_R_stepTo hG zm7) rfl (Nat.le_trans jcN (Nat.le_of_ble_eq_true rfl)) ?_
    cases h
    exact J.vret d_R_openBracket_54 rfl rfl
  · rw [if_neg c] at h
    refine J.aload_n 0 d_R_openBracket_9 rfl rfl ?_
    refine J.iconst (v := (2 : Int32)) d_R_openBracket_10 ki_2 ?_
    obtain ⟨u8, m9, zm9, h⟩ := jbd_some h
    refine J.cVv Y_R_fail (As := [.int (2 : Int32)]) (rest := []) hG d_R_openBracket_11 mi_R_fail mv_R_fail lk_R_78 ⟨rfl, rfl, Nat.le_of_ble_eq_true rfl⟩ cq_21 cc_2 (c_R_fail hG zm9) rfl (Nat.le_trans jcN (Nat.le_of_ble_eq_true rfl)) ?_
    cases h
    exact J.vret d_R_openBracket_14 rfl rfl

def f_R_takeValue (m : jMem) : Option (Unit × jMem) :=
  jgd (jok (m 21 2).toNatClampNeg ∧ jok 1003) (if (m 21 2).toNatClampNeg = 1003 then
    if (999 : Int32) < (m 21 3) then
      jbd (f_R_fail (2 : Int32) m) fun u1 m2 =>
      some ((), m2)
    else
      jgd (jhok (m 21 6).toNatClampNeg) (
        if (m (m 21 6).toNatClampNeg 11) < (64 : Int32) then
          jgd (jhok (m 21 6).toNatClampNeg) (
            jgd (jhok (m 21 6).toNatClampNeg) (
              jpu m (m 21 6).toNatClampNeg 11 ((m (m 21 6).toNatClampNeg 11) + (1 : Int32)) fun m5 =>
              jgd (jhok (m5 21 6).toNatClampNeg) (
                jbd (f_H_addKnot (m5 21 6).toNatClampNeg (m5 21 2).toNatClampNeg (m5 21 3) m5) fun u7 m8 =>
                jpu m8 21 11 (0 : Int32) fun m10 =>
                jbd (f_R_stepTo ((m10 21 1) + (1 : Int32)) m10) fun u11 m12 =>
                some ((), m12))))
        else
          jbd (f_R_fail (2 : Int32) m) fun u13 m14 =>
          some ((), m14))
  else
    jgd (jtk (m 21 2).toNatClampNeg) (
      jlt (jtkP (m 21 2).toNatClampNeg) fun x15 =>
      if x15 = (2 : Int32) then
        if (999 : Int32) < (m 21 3) then
          jbd (f_R_fail (2 : Int32) m) fun u24 m25 =>
          some ((), m25)
        else
          jgd (jhok (m 21 6).toNatClampNeg) (
            if (m (m 21 6).toNatClampNeg 11) < (64 : Int32) then
              jgd (jhok (m 21 6).toNatClampNeg) (
                jgd (jhok (m 21 6).toNatClampNeg) (
                  jpu m (m 21 6).toNatClampNeg 11 ((m (m 21 6).toNatClampNeg 11) + (1 : Int32)) fun m28 =>
                  jgd (jhok (m28 21 6).toNatClampNeg) (
                    jbd (f_H_addKnot (m28 21 6).toNatClampNeg (m28 21 2).toNatClampNeg (m28 21 3) m28) fun u30 m31 =>
                    jpu m31 21 11 (0 : Int32) fun m33 =>
                    jbd (f_R_stepTo ((m33 21 1) + (1 : Int32)) m33) fun u34 m35 =>
                    some ((), m35))))
            else
              jbd (f_R_fail (2 : Int32) m) fun u36 m37 =>
              some ((), m37))
      else
        jgd (jok (m 21 2).toNatClampNeg ∧ jok 1005) (if (m 21 2).toNatClampNeg = 1005 then
          jbd (f_R_openBracket m) fun u22 m23 =>
          some ((), m23)
        else
          jgd (jok (m 21 2).toNatClampNeg ∧ jok 1025) (if (m 21 2).toNatClampNeg = 1025 then
            if (m 21 12) = 0 then
              jbd (f_R_fail (1 : Int32) m) fun u18 m19 =>
              some ((), m19)
            else
              jbd (f_R_takePending m) fun u20 m21 =>
              some ((), m21)
          else
            jbd (f_R_fail (1 : Int32) m) fun u16 m17 =>
            some ((), m17)))))
theorem c_R_takeValue {G : jG} (hG : jFul G) {m : jMem} {r : (Unit × jMem)} (h : f_R_takeValue m = some r) : jCt G Y_R_takeValue [jr G 21] m (jrv r) := by
  refine jCt.ov (ls := [(0, jr G 21)]) mi_R_takeValue (jAvR jAvN) (Nat.le_of_ble_eq_true rfl) ?_ ⟨rfl, rfl⟩
  unfold f_R_takeValue at h
  refine J.aload_n 0 d_R_takeValue_0 rfl rfl ?_
  refine J.getM hG d_R_takeValue_1 fl_R_15 ck_21_2 ?_
  refine J.gets (i := 2) (nm := "NUMBER") d_R_takeValue_4 (by decide) rfl (jt_3 94 rfl rfl) ?_
  obtain ⟨g, h⟩ := jgd_some h
  refine J.acmp_eq 21 d_R_takeValue_7 rfl g.1 g.2 (fun c => ?_) (fun c => ?_)
  · rw [if_pos c] at h
    refine J.aload_n 0 d_R_takeValue_21 rfl rfl ?_
    refine J.getI hG d_R_takeValue_22 fl_R_90 ck_21_3 ?_
    refine J.sipush (v := (999 : Int32)) d_R_takeValue_25 ks_999 ?_
    refine J.icmp_gt 43 d_R_takeValue_28 rfl (fun c => ?_) (fun c => ?_)
    · rw [if_pos c] at h
      refine J.aload_n 0 d_R_takeValue_43 rfl rfl ?_
      refine J.iconst (v := (2 : Int32)) d_R_takeValue_44 ki_2 ?_
      obtain ⟨u1, m2, zm2, h⟩ := jbd_some h
      refine J.cVv Y_R_fail (As := [.int (2 : Int32)]) (rest := []) hG d_R_takeValue_45 mi_R_fail mv_R_fail lk_R_78 ⟨rfl, rfl, Nat.le_of_ble_eq_true rfl⟩ cq_21 cc_2 (c_R_fail hG zm2) rfl (Nat.le_trans jcN (Nat.le_of_ble_eq_true rfl)) ?_
      cases h
      exact J.vret d_R_takeValue_48 rfl rfl
    · rw [if_neg c] at h
      refine J.aload_n 0 d_R_takeValue_31 rfl rfl ?_
      refine J.getM hG d_R_takeValue_32 fl_R_41 ck_21_6 ?_
      obtain ⟨g3, h⟩ := jgd_some h
      refine J.getI hG d_R_takeValue_35 fl_R_168 (jhok_I g3 11 rfl) ?_
      refine J.bipush (v := (64 : Int32)) d_R_takeValue_38 kb_64 ?_
      refine J.nop (pc' := 40) rfl ?_
      refine J.icmp_lt 49 d_R_takeValue_40 rfl (fun c => ?_) (fun c => ?_)
      · rw [if_pos c] at h
        refine J.aload_n 0 d_R_takeValue_49 rfl rfl ?_
        refine J.getM hG d_R_takeValue_50 fl_R_41 ck_21_6 ?_
        refine J.dup d_R_takeValue_53 (jr_cat _ _) ?_
        obtain ⟨g4, h⟩ := jgd_some h
        refine J.getI hG d_R_takeValue_54 fl_R_168 (jhok_I g4 11 rfl) ?_
        refine J.iconst (v := (1 : Int32)) d_R_takeValue_57 ki_1 ?_
        refine J.iadd d_R_takeValue_58 ?_
        obtain ⟨g6, h⟩ := jgd_some h
        obtain ⟨m5, hm5, h⟩ := jpu_some h
        refine J.putI hG d_R_takeValue_59 fl_R_168 fp_1_11 (jhok_I g6 11 rfl) hm5 ?_
        refine J.aload_n 0 d_R_takeValue_62 rfl rfl ?_
        refine J.nop (pc' := 63) rfl ?_
        refine J.getM hG d_R_takeValue_63 fl_R_41 ck_21_6 ?_
        refine J.aload_n 0 d_R_takeValue_66 rfl rfl ?_
        refine J.getM hG d_R_takeValue_67 fl_R_15 ck_21_2 ?_
        refine J.aload_n 0 d_R_takeValue_70 rfl rfl ?_
        refine J.getI hG d_R_takeValue_71 fl_R_90 ck_21_3 ?_
        obtain ⟨g9, h⟩ := jgd_some h
        obtain ⟨u7, m8, zm8, h⟩ := jbd_some h
        refine J.cVv Y_H_addKnot (As := [jr G (m5 21 2).toNatClampNeg, .int (m5 21 3)]) (rest := []) hG d_R_takeValue_74 mi_H_addKnot mv_H_addKnot lk_R_171 ⟨rfl, rfl, Nat.le_of_ble_eq_true rfl⟩ (jhok_q g9) cc_1 (c_H_addKnot hG g9 zm8) rfl (Nat.le_trans jcN (Nat.le_of_ble_eq_true rfl)) ?_
        refine J.aload_n 0 d_R_takeValue_77 rfl rfl ?_
        refine J.iconst (v := (0 : Int32)) d_R_takeValue_78 ki_0 ?_
        refine J.nop (pc' := 79) rfl ?_
        obtain ⟨m10, hm10, h⟩ := jpu_some h
        refine J.putZ hG d_R_takeValue_79 fl_R_146 fp_2_11 ck_21_11 (Or.inl rfl) hm10 ?_
        refine J.aload_n 0 d_R_takeValue_82 rfl rfl ?_
        refine J.aload_n 0 d_R_takeValue_83 rfl rfl ?_
        refine J.getI hG d_R_takeValue_84 fl_R_81 ck_21_1 ?_
        refine J.iconst (v := (1 : Int32)) d_R_takeValue_87 ki_1 ?_
        refine J.iadd d_R_takeValue_88 ?_
        obtain ⟨u11, m12, zm12, h⟩ := jbd_some h
        refine J.cVv Y_R_stepTo (As := [.int ((m10 21 1) + (1 : Int32))]) (rest := []) hG d_R_takeValue_89 mi_R_stepTo mv_R_stepTo lk_R_57 ⟨rfl, rfl, Nat.le_of_ble_eq_true rfl⟩ cq_21 cc_2 (c_R_stepTo hG zm12) rfl (Nat.le_trans jcN (Nat.le_of_ble_eq_true rfl)) ?_
        refine J.goto 141 d_R_takeValue_92 rfl ?_
        cases h
        exact J.vret d_R_takeValue_141 rfl rfl
      · rw [if_neg c] at h
        refine J.aload_n 0 d_R_takeValue_43 rfl rfl ?_
        refine J.iconst (v := (2 : Int32)) d_R_takeValue_44 ki_2 ?_
        obtain ⟨u13, m14, zm14, h⟩ := jbd_some h
        refine J.cVv Y_R_fail (As := [.int (2 : Int32)]) (rest := []) hG d_R_takeValue_45 mi_R_fail mv_R_fail lk_R_78 ⟨rfl, rfl, Nat.le_of_ble_eq_true rfl⟩ cq_21 cc_2 (c_R_fail hG zm14) rfl (Nat.le_trans jcN (Nat.le_of_ble_eq_true rfl)) ?_
        cases h
        exact J.vret d_R_takeValue_48 rfl rfl
  · rw [if_neg c] at h
    refine J.aload_n 0 d_R_takeValue_10 rfl rfl ?_
    refine J.getM hG d_R_takeValue_11 fl_R_15 ck_21_2 ?_
    obtain ⟨g, h⟩ := jgd_some h
    obtain ⟨x15, ex15, h⟩ := jlt_some h
    refine J.gkP d_R_takeValue_14 g (Or.inr ⟨"CitingLetters", jn_8 227 rfl rfl⟩) ex15 ?_
    refine J.iconst (v := (2 : Int32)) d_R_takeValue_17 ki_2 ?_
    refine J.nop (pc' := 18) rfl ?_
    refine J.icmp_ne 95 d_R_takeValue_18 rfl (fun c => ?_) (fun c => ?_)
    · rw [if_neg c] at h
      refine J.aload_n 0 d_R_takeValue_95 rfl rfl ?_
      refine J.getM hG d_R_takeValue_96 fl_R_15 ck_21_2 ?_
      refine J.gets (i := 4) (nm := "OPEN") d_R_takeValue_99 (by decide) rfl (jt_3 128 rfl rfl) ?_
      obtain ⟨g, h⟩ := jgd_some h
      refine J.acmp_ne 112 d_R_takeValue_102 rfl g.1 g.2 (fun c => ?_) (fun c => ?_)
      · rw [if_neg c] at h
        refine J.aload_n 0 d_R_takeValue_112 rfl rfl ?_
        refine J.getM hG d_R_takeValue_113 fl_R_15 ck_21_2 ?_
        refine J.gets (i := 24) (nm := "NOT") d_R_takeValue_116 (by decide) rfl (jt_3 138 rfl rfl) ?_
        obtain ⟨g, h⟩ := jgd_some h
        refine J.acmp_ne 136 d_R_takeValue_119 rfl g.1 g.2 (fun c => ?_) (fun c => ?_)
        · rw [if_neg c] at h
          refine J.aload_n 0 d_R_takeValue_136 rfl rfl ?_
          refine J.iconst (v := (1 : Int32)) d_R_takeValue_137 ki_1 ?_
          obtain ⟨u16, m17, zm17, h⟩ := jbd_some h
          refine J.cVv Y_R_fail (As := [.int (1 : Int32)]) (rest := []) hG d_R_takeValue_138 mi_R_fail mv_R_fail lk_R_78 ⟨rfl, rfl, Nat.le_of_ble_eq_true rfl⟩ cq_21 cc_2 (c_R_fail hG zm17) rfl (Nat.le_trans jcN (Nat.le_of_ble_eq_true rfl)) ?_
          cases h
          exact J.vret d_R_takeValue_141 rfl rfl
        · rw [if_pos c] at h
          refine J.aload_n 0 d_R_takeValue_122 rfl rfl ?_
          refine J.getI hG d_R_takeValue_123 fl_R_150 ck_21_12 ?_
          refine J.if_eq 136 d_R_takeValue_126 rfl (fun c => ?_) (fun c => ?_)
          · rw [if_pos c] at h
            refine J.aload_n 0 d_R_takeValue_136 rfl rfl ?_
            refine J.iconst (v := (1 : Int32)) d_R_takeValue_137 ki_1 ?_
            obtain ⟨u18, m19, zm19, h⟩ := jbd_some h
            refine J.cVv Y_R_fail (As := [.int (1 : Int32)]) (rest := []) hG d_R_takeValue_138 mi_R_fail mv_R_fail lk_R_78 ⟨rfl, rfl, Nat.le_of_ble_eq_true rfl⟩ cq_21 cc_2 (c_R_fail hG zm19) rfl (Nat.le_trans jcN (Nat.le_of_ble_eq_true rfl)) ?_
            cases h
            exact J.vret d_R_takeValue_141 rfl rfl
          · rw [if_neg c] at h
            refine J.aload_n 0 d_R_takeValue_129 rfl rfl ?_
            refine J.nop (pc' := 130) rfl ?_
            obtain ⟨u20, m21, zm21, h⟩ := jbd_some h
            refine J.cVv Y_R_takePending (As := []) (rest := []) hG d_R_takeValue_130 mi_R_takePending mv_R_takePending lk_R_183 ⟨rfl, rfl, Nat.le_of_ble_eq_true rfl⟩ cq_21 cc_2 (c_R_takePending hG zm21) rfl (Nat.le_trans jcN (Nat.le_of_ble_eq_true rfl)) ?_
            refine J.goto 141 d_R_takeValue_133 rfl ?_
            cases h
            exact J.vret d_R_takeValue_141 rfl rfl
      · rw [if_pos c] at h
        refine J.aload_n 0 d_R_takeValue_105 rfl rfl ?_
        obtain ⟨u22, m23, zm23, h⟩ := jbd_some h
        refine J.cVv Y_R_openBracket (As := []) (rest := []) hG d_R_takeValue_106 mi_R_openBracket mv_R_openBracket lk_R_177 ⟨rfl, rfl, Nat.le_of_ble_eq_true rfl⟩ cq_21 cc_2 (c_R_openBracket hG zm23) rfl (Nat.le_trans jcN (Nat.le_of_ble_eq_true rfl)) ?_
        refine J.goto 141 d_R_takeValue_109 rfl ?_
        cases h
        exact J.vret d_R_takeValue_141 rfl rfl
    · rw [if_pos c] at h
      refine J.aload_n 0 d_R_takeValue_21 rfl rfl ?_
      refine J.getI hG d_R_takeValue_22 fl_R_90 ck_21_3 ?_
      refine J.sipush (v := (999 : Int32)) d_R_takeValue_25 ks_999 ?_
      refine J.icmp_gt 43 d_R_takeValue_28 rfl (fun c => ?_) (fun c => ?_)
      · rw [if_pos c] at h
        refine J.aload_n 0 d_R_takeValue_43 rfl rfl ?_
        refine J.iconst (v := (2 : Int32)) d_R_takeValue_44 ki_2 ?_
        obtain ⟨u24, m25, zm25, h⟩ := jbd_some h
        refine J.cVv Y_R_fail (As := [.int (2 : Int32)]) (rest := []) hG d_R_takeValue_45 mi_R_fail mv_R_fail lk_R_78 ⟨rfl, rfl, Nat.le_of_ble_eq_true rfl⟩ cq_21 cc_2 (c_R_fail hG zm25) rfl (Nat.le_trans jcN (Nat.le_of_ble_eq_true rfl)) ?_
        cases h
        exact J.vret d_R_takeValue_48 rfl rfl
      · rw [if_neg c] at h
        refine J.aload_n 0 d_R_takeValue_31 rfl rfl ?_
        refine J.getM hG d_R_takeValue_32 fl_R_41 ck_21_6 ?_
        obtain ⟨g26, h⟩ := jgd_some h
        refine J.getI hG d_R_takeValue_35 fl_R_168 (jhok_I g26 11 rfl) ?_
        refine J.nop (pc' := 38) rfl ?_
        refine J.bipush (v := (64 : Int32)) d_R_takeValue_38 kb_64 ?_
        refine J.icmp_lt 49 d_R_takeValue_40 rfl (fun c => ?_) (fun c => ?_)
        · rw [if_pos c] at h
          refine J.aload_n 0 d_R_takeValue_49 rfl rfl ?_
          refine J.getM hG d_R_takeValue_50 fl_R_41 ck_21_6 ?_
          refine J.dup d_R_takeValue_53 (jr_cat _ _) ?_
          obtain ⟨g27, h⟩ := jgd_some h
          refine J.getI hG d_R_takeValue_54 fl_R_168 (jhok_I g27 11 rfl) ?_
          refine J.iconst (v := (1 : Int32)) d_R_takeValue_57 ki_1 ?_
          refine J.iadd d_R_takeValue_58 ?_
          obtain ⟨g29, h⟩ := jgd_some h
          obtain ⟨m28, hm28, h⟩ := jpu_some h
          refine J.putI hG d_R_takeValue_59 fl_R_168 fp_1_11 (jhok_I g29 11 rfl) hm28 ?_
          refine J.aload_n 0 d_R_takeValue_62 rfl rfl ?_
          refine J.nop (pc' := 63) rfl ?_
          refine J.getM hG d_R_takeValue_63 fl_R_41 ck_21_6 ?_
          refine J.aload_n 0 d_R_takeValue_66 rfl rfl ?_
          refine J.getM hG d_R_takeValue_67 fl_R_15 ck_21_2 ?_
          refine J.aload_n 0 d_R_takeValue_70 rfl rfl ?_
          refine J.getI hG d_R_takeValue_71 fl_R_90 ck_21_3 ?_
          obtain ⟨g32, h⟩ := jgd_some h
          obtain ⟨u30, m31, zm31, h⟩ := jbd_some h
          refine J.cVv Y_H_addKnot (As := [jr G (m28 21 2).toNatClampNeg, .int (m28 21 3)]) (rest := []) hG d_R_takeValue_74 mi_H_addKnot mv_H_addKnot lk_R_171 ⟨rfl, rfl, Nat.le_of_ble_eq_true rfl⟩ (jhok_q g32) cc_1 (c_H_addKnot hG g32 zm31) rfl (Nat.le_trans jcN (Nat.le_of_ble_eq_true rfl)) ?_
          refine J.aload_n 0 d_R_takeValue_77 rfl rfl ?_
          refine J.iconst (v := (0 : Int32)) d_R_takeValue_78 ki_0 ?_
          refine J.nop (pc' := 79) rfl ?_
          obtain ⟨m33, hm33, h⟩ := jpu_some h
          refine J.putZ hG d_R_takeValue_79 fl_R_146 fp_2_11 ck_21_11 (Or.inl rfl) hm33 ?_
          refine J.aload_n 0 d_R_takeValue_82 rfl rfl ?_
          refine J.aload_n 0 d_R_takeValue_83 rfl rfl ?_
          refine J.getI hG d_R_takeValue_84 fl_R_81 ck_21_1 ?_
          refine J.iconst (v := (1 : Int32)) d_R_takeValue_87 ki_1 ?_
          refine J.iadd d_R_takeValue_88 ?_
          obtain ⟨u34, m35, zm35, h⟩ := jbd_some h
          refine J.cVv Y_R_stepTo (As := [.int ((m33 21 1) + (1 : Int32))]) (rest := []) hG d_R_takeValue_89 mi_R_stepTo mv_R_stepTo lk_R_57 ⟨rfl, rfl, Nat.le_of_ble_eq_true rfl⟩ cq_21 cc_2 (c_R_stepTo hG zm35) rfl (Nat.le_trans jcN (Nat.le_of_ble_eq_true rfl)) ?_
          refine J.goto 141 d_R_takeValue_92 rfl ?_
          cases h
          exact J.vret d_R_takeValue_141 rfl rfl
        · rw [if_neg c] at h
          refine J.aload_n 0 d_R_takeValue_43 rfl rfl ?_
          refine J.iconst (v := (2 : Int32)) d_R_takeValue_44 ki_2 ?_
          obtain ⟨u36, m37, zm37, h⟩ := jbd_some h
          refine J.cVv Y_R_fail (As := [.int (2 : Int32)]) (rest := []) hG d_R_takeValue_45 mi_R_fail mv_R_fail lk_R_78 ⟨rfl, rfl, Nat.le_of_ble_eq_true rfl⟩ cq_21 cc_2 (c_R_fail hG zm37) rfl (Nat.le_trans jcN (Nat.le_of_ble_eq_true rfl)) ?_
          cases h
          exact J.vret d_R_takeValue_48 rfl rfl

def lp_R_takeExpression_29 (k106 : jMem → Option (Unit × jMem)) : Nat → Int32 → jMem → Option (Unit × jMem)
  | 0, _, _ => none
  | n + 1, v1, m =>
    if (m 24 5) ≤ v1 then
      k106 m
    else
      if (m 21 4) = 0 then
        if (m 21 11) = 0 then
          jgd (jok (m 21 2).toNatClampNeg ∧ jok 1006) (if (m 21 2).toNatClampNeg = 1006 then
            if (m 21 9) ≤ 0 then
              jgd (jtk (m 21 2).toNatClampNeg) (
                jlt (jtkP (m 21 2).toNatClampNeg) fun x9 =>
                if x9 = (3 : Int32) then
                  jbd (f_R_takeJoint m) fun u10 m11 =>
                  lp_R_takeExpression_29 k106 n (v1 + (1 : Int32)) m11
                else
                  k106 m)
            else
              jbd (f_R_closeBracket m) fun u12 m13 =>
              lp_R_takeExpression_29 k106 n (v1 + (1 : Int32)) m13
          else
            jgd (jtk (m 21 2).toNatClampNeg) (
              jlt (jtkP (m 21 2).toNatClampNeg) fun x6 =>
              if x6 = (3 : Int32) then
                jbd (f_R_takeJoint m) fun u7 m8 =>
                lp_R_takeExpression_29 k106 n (v1 + (1 : Int32)) m8
              else
                k106 m))
        else
          jbd (f_R_takeValue m) fun u14 m15 =>
          lp_R_takeExpression_29 k106 n (v1 + (1 : Int32)) m15
      else
        k106 m
def f_R_takeExpression (m : jMem) : Option (Unit × jMem) :=
  jpu m 21 8 (0 : Int32) fun m1 =>
  jpu m1 21 9 (0 : Int32) fun m2 =>
  jst 2 m2 23 (0 : Int32) (jbz (0 : Int32)) fun m3 =>
  jpu m3 21 11 (1 : Int32) fun m4 =>
  jpu m4 21 12 (1 : Int32) fun m5 =>
  lp_R_takeExpression_29 (fun m16 =>
    if (m16 21 4) = 0 then
      if (m16 21 9) ≤ 0 then
        jbd (f_R_settle (0 : Int32) m16) fun u19 m20 =>
        some ((), m20)
      else
        jbd (f_R_fail (1 : Int32) m16) fun u21 m22 =>
        jbd (f_R_settle (0 : Int32) m22) fun u23 m24 =>
        some ((), m24)
    else
      jbd (f_R_settle (0 : Int32) m16) fun u17 m18 =>
      some ((), m18)) 5000 (0 : Int32) m5
theorem jlp_R_takeExpression_29 {G : jG} (hG : jFul G) (k106 : jMem → Option (Unit × jMem))
    (hk106 : ∀ (m : jMem) (r : (Unit × jMem)), k106 m = some r → J G Y_R_takeExpression 106 [(0, jr G 21)] [] m (jrv r)) : ∀ (n : Nat) (v1 : Int32) (m : jMem) (r : (Unit × jMem)), lp_R_takeExpression_29 k106 n v1 m = some r → J G Y_R_takeExpression 29 [(0, jr G 21), (1, .int v1)] [] m (jrv r) := by
  intro n
  induction n with
  | zero => intro v1 m r h; unfold lp_R_takeExpression_29 at h; cases h
  | succ n ih =>
    intro v1 m r h
    unfold lp_R_takeExpression_29 at h
    refine J.iload_n 1 d_R_takeExpression_29 rfl rfl ?_
    refine J.aload_n 0 d_R_takeExpression_30 rfl rfl ?_
    refine J.getF (n := 24) hG d_R_takeExpression_31 fl_R_37 ck_21_0 rfl ?_
    refine J.getI hG d_R_takeExpression_34 fl_R_60 ck_24_5 ?_
    refine J.icmp_ge 106 d_R_takeExpression_37 rfl (fun c => ?_) (fun c => ?_)
    · rw [if_pos c] at h
      exact J.sub (ls' := [(0, jr G 21)]) [0] rfl (hk106  m _ h)
    · rw [if_neg c] at h
      refine J.aload_n 0 d_R_takeExpression_40 rfl rfl ?_
      refine J.getI hG d_R_takeExpression_41 fl_R_54 ck_21_4 ?_
      refine J.if_ne 106 d_R_takeExpression_44 rfl (fun c => ?_) (fun c => ?_)
      · rw [if_neg c] at h
        exact J.sub (ls' := [(0, jr G 21)]) [0] rfl (hk106  m _ h)
      · rw [if_pos c] at h
        refine J.nop (pc' := 47) rfl ?_
        refine J.aload_n 0 d_R_takeExpression_47 rfl rfl ?_
        refine J.getI hG d_R_takeExpression_48 fl_R_146 ck_21_11 ?_
        refine J.if_eq 61 d_R_takeExpression_51 rfl (fun c => ?_) (fun c => ?_)
        · rw [if_pos c] at h
          refine J.aload_n 0 d_R_takeExpression_61 rfl rfl ?_
          refine J.getM hG d_R_takeExpression_62 fl_R_15 ck_21_2 ?_
          refine J.gets (i := 5) (nm := "CLOSE") d_R_takeExpression_65 (by decide) rfl (jt_3 144 rfl rfl) ?_
          obtain ⟨g, h⟩ := jgd_some h
          refine J.acmp_ne 85 d_R_takeExpression_68 rfl g.1 g.2 (fun c => ?_) (fun c => ?_)
          · rw [if_neg c] at h
            refine J.aload_n 0 d_R_takeExpression_85 rfl rfl ?_
            refine J.getM hG d_R_takeExpression_86 fl_R_15 ck_21_2 ?_
            obtain ⟨g, h⟩ := jgd_some h
            obtain ⟨x6, ex6, h⟩ := jlt_some h
            refine J.gkP d_R_takeExpression_89 g (Or.inr ⟨"CitingLetters", jn_8 227 rfl rfl⟩) ex6 ?_
            refine J.iconst (v := (3 : Int32)) d_R_takeExpression_92 ki_3 ?_
            refine J.icmp_ne 106 d_R_takeExpression_93 rfl (fun c => ?_) (fun c => ?_)
            · rw [if_neg c] at h
              exact J.sub (ls' := [(0, jr G 21)]) [0] rfl (hk106  m _ h)
            · rw [if_pos c] at h
              refine J.aload_n 0 d_R_takeExpression_96 rfl rfl ?_
              obtain ⟨u7, m8, zm8, h⟩ := jbd_some h
              refine J.cVv Y_R_takeJoint (As := []) (rest := []) hG d_R_takeExpression_97 mi_R_takeJoint mv_R_takeJoint lk_R_162 ⟨rfl, rfl, Nat.le_of_ble_eq_true rfl⟩ cq_21 cc_2 (c_R_takeJoint hG zm8) rfl (Nat.le_trans jcN (Nat.le_of_ble_eq_true rfl)) ?_
              refine J.iinc 1 (v := (1 : Int32)) (lv := [(1, .int (v1 + (1 : Int32))), (0, jr G 21)]) d_R_takeExpression_100 rfl ki_1 (by decide) rfl ?_
              refine J.nop (pc' := 103) rfl ?_
              refine J.goto 29 d_R_takeExpression_103 rfl ?_
              exact J.sub (ls' := [(0, jr G 21), (1, .int (v1 + (1 : Int32)))]) [1, 0] rfl (ih (v1 + (1 : Int32)) m8 _ h)
          · rw [if_pos c] at h
            refine J.aload_n 0 d_R_takeExpression_71 rfl rfl ?_
            refine J.getI hG d_R_takeExpression_72 fl_R_143 ck_21_9 ?_
            refine J.if_le 85 d_R_takeExpression_75 rfl (fun c => ?_) (fun c => ?_)
            · rw [if_pos c] at h
              refine J.aload_n 0 d_R_takeExpression_85 rfl rfl ?_
              refine J.getM hG d_R_takeExpression_86 fl_R_15 ck_21_2 ?_
              obtain ⟨g, h⟩ := jgd_some h
              obtain ⟨x9, ex9, h⟩ := jlt_some h
              refine J.gkP d_R_takeExpression_89 g (Or.inr ⟨"CitingLetters", jn_8 227 rfl rfl⟩) ex9 ?_
              refine J.iconst (v := (3 : Int32)) d_R_takeExpression_92 ki_3 ?_
              refine J.icmp_ne 106 d_R_takeExpression_93 rfl (fun c => ?_) (fun c => ?_)
              · rw [if_neg c] at h
                exact J.sub (ls' := [(0, jr G 21)]) [0] rfl (hk106  m _ h)
              · rw [if_pos c] at h
                refine J.aload_n 0 d_R_takeExpression_96 rfl rfl ?_
                obtain ⟨u10, m11, zm11, h⟩ := jbd_some h
                refine J.cVv Y_R_takeJoint (As := []) (rest := []) hG d_R_takeExpression_97 mi_R_takeJoint mv_R_takeJoint lk_R_162 ⟨rfl, rfl, Nat.le_of_ble_eq_true rfl⟩ cq_21 cc_2 (c_R_takeJoint hG zm11) rfl (Nat.le_trans jcN (Nat.le_of_ble_eq_true rfl)) ?_
                refine J.iinc 1 (v := (1 : Int32)) (lv := [(1, .int (v1 + (1 : Int32))), (0, jr G 21)]) d_R_takeExpression_100 rfl ki_1 (by decide) rfl ?_
                refine J.nop (pc' := 103) rfl ?_
                refine J.goto 29 d_R_takeExpression_103 rfl ?_
                exact J.sub (ls' := [(0, jr G 21), (1, .int (v1 + (1 : Int32)))]) [1, 0] rfl (ih (v1 + (1 : Int32)) m11 _ h)
            · rw [if_neg c] at h
              refine J.aload_n 0 d_R_takeExpression_78 rfl rfl ?_
              refine J.nop (pc' := 79) rfl ?_
              obtain ⟨u12, m13, zm13, h⟩ := jbd_some h
              refine J.cVv Y_R_closeBracket (As := []) (rest := []) hG d_R_takeExpression_79 mi_R_closeBracket mv_R_closeBracket lk_R_159 ⟨rfl, rfl, Nat.le_of_ble_eq_true rfl⟩ cq_21 cc_2 (c_R_closeBracket hG zm13) rfl (Nat.le_trans jcN (Nat.le_of_ble_eq_true rfl)) ?_
              refine J.goto 100 d_R_takeExpression_82 rfl ?_
              refine J.iinc 1 (v := (1 : Int32)) (lv := [(1, .int (v1 + (1 : Int32))), (0, jr G 21)]) d_R_takeExpression_100 rfl ki_1 (by decide) rfl ?_
              refine J.goto 29 d_R_takeExpression_103 rfl ?_
              exact J.sub (ls' := [(0, jr G 21), (1, .int (v1 + (1 : Int32)))]) [1, 0] rfl (ih (v1 + (1 : Int32)) m13 _ h)
        · rw [if_neg c] at h
          refine J.aload_n 0 d_R_takeExpression_54 rfl rfl ?_
          obtain ⟨u14, m15, zm15, h⟩ := jbd_some h
          refine J.cVv Y_R_takeValue (As := []) (rest := []) hG d_R_takeExpression_55 mi_R_takeValue mv_R_takeValue lk_R_153 ⟨rfl, rfl, Nat.le_of_ble_eq_true rfl⟩ cq_21 cc_2 (c_R_takeValue hG zm15) rfl (Nat.le_trans jcN (Nat.le_of_ble_eq_true rfl)) ?_
          refine J.goto 100 d_R_takeExpression_58 rfl ?_
          refine J.iinc 1 (v := (1 : Int32)) (lv := [(1, .int (v1 + (1 : Int32))), (0, jr G 21)]) d_R_takeExpression_100 rfl ki_1 (by decide) rfl ?_
          refine J.goto 29 d_R_takeExpression_103 rfl ?_
          exact J.sub (ls' := [(0, jr G 21), (1, .int (v1 + (1 : Int32)))]) [1, 0] rfl (ih (v1 + (1 : Int32)) m15 _ h)
theorem c_R_takeExpression {G : jG} (hG : jFul G) {m : jMem} {r : (Unit × jMem)} (h : f_R_takeExpression m = some r) : jCt G Y_R_takeExpression [jr G 21] m (jrv r) := by
  refine jCt.ov (ls := [(0, jr G 21)]) mi_R_takeExpression (jAvR jAvN) (Nat.le_of_ble_eq_true rfl) ?_ ⟨rfl, rfl⟩
  unfold f_R_takeExpression at h
  refine J.aload_n 0 d_R_takeExpression_0 rfl rfl ?_
  refine J.iconst (v := (0 : Int32)) d_R_takeExpression_1 ki_0 ?_
  obtain ⟨m1, hm1, h⟩ := jpu_some h
  refine J.putI hG d_R_takeExpression_2 fl_R_140 fp_2_8 ck_21_8 hm1 ?_
  refine J.aload_n 0 d_R_takeExpression_5 rfl rfl ?_
  refine J.iconst (v := (0 : Int32)) d_R_takeExpression_6 ki_0 ?_
  obtain ⟨m2, hm2, h⟩ := jpu_some h
  refine J.putI hG d_R_takeExpression_7 fl_R_143 fp_2_9 ck_21_9 hm2 ?_
  refine J.aload_n 0 d_R_takeExpression_10 rfl rfl ?_
  refine J.getF (n := 23) hG d_R_takeExpression_11 fl_R_28 ck_21_10 rfl ?_
  refine J.nop (pc' := 14) rfl ?_
  refine J.iconst (v := (0 : Int32)) d_R_takeExpression_14 ki_0 ?_
  refine J.iconst (v := (0 : Int32)) d_R_takeExpression_15 ki_0 ?_
  obtain ⟨m3, hm3, g, h⟩ := jst_some h
  refine J.zs hG d_R_takeExpression_16 g hm3 ?_
  refine J.aload_n 0 d_R_takeExpression_17 rfl rfl ?_
  refine J.iconst (v := (1 : Int32)) d_R_takeExpression_18 ki_1 ?_
  obtain ⟨m4, hm4, h⟩ := jpu_some h
  refine J.putZ hG d_R_takeExpression_19 fl_R_146 fp_2_11 ck_21_11 (Or.inr rfl) hm4 ?_
  refine J.aload_n 0 d_R_takeExpression_22 rfl rfl ?_
  refine J.iconst (v := (1 : Int32)) d_R_takeExpression_23 ki_1 ?_
  refine J.nop (pc' := 24) rfl ?_
  obtain ⟨m5, hm5, h⟩ := jpu_some h
  refine J.putZ hG d_R_takeExpression_24 fl_R_150 fp_2_12 ck_21_12 (Or.inr rfl) hm5 ?_
  refine J.iconst (v := (0 : Int32)) d_R_takeExpression_27 ki_0 ?_
  refine J.istore_n (lv := [(1, .int (0 : Int32)), (0, jr G 21)]) d_R_takeExpression_28 rfl (by decide) rfl ?_
  refine J.sub (ls' := [(0, jr G 21), (1, .int (0 : Int32))]) [1, 0] rfl ?_
  refine jlp_R_takeExpression_29 hG _ ?_ _ (0 : Int32) m5 _ h
  intro m16 r h
  refine J.aload_n 0 d_R_takeExpression_106 rfl rfl ?_
  refine J.getI hG d_R_takeExpression_107 fl_R_54 ck_21_4 ?_
  refine J.if_ne 125 d_R_takeExpression_110 rfl (fun c => ?_) (fun c => ?_)
  · rw [if_neg c] at h
    refine J.aload_n 0 d_R_takeExpression_125 rfl rfl ?_
    refine J.iconst (v := (0 : Int32)) d_R_takeExpression_126 ki_0 ?_
    obtain ⟨u17, m18, zm18, h⟩ := jbd_some h
    refine J.cVv Y_R_settle (As := [.int (0 : Int32)]) (rest := []) hG d_R_takeExpression_127 mi_R_settle mv_R_settle lk_R_165 ⟨rfl, rfl, Nat.le_of_ble_eq_true rfl⟩ cq_21 cc_2 (c_R_settle hG zm18) rfl (Nat.le_trans jcN (Nat.le_of_ble_eq_true rfl)) ?_
    cases h
    exact J.vret d_R_takeExpression_130 rfl rfl
  · rw [if_pos c] at h
    refine J.aload_n 0 d_R_takeExpression_113 rfl rfl ?_
    refine J.getI hG d_R_takeExpression_114 fl_R_143 ck_21_9 ?_
    refine J.if_le 125 d_R_takeExpression_117 rfl (fun c => ?_) (fun c => ?_)
    · rw [if_pos c] at h
      refine J.aload_n 0 d_R_takeExpression_125 rfl rfl ?_
      refine J.iconst (v := (0 : Int32)) d_R_takeExpression_126 ki_0 ?_
      obtain ⟨u19, m20, zm20, h⟩ := jbd_some h
      refine J.cVv Y_R_settle (As := [.int (0 : Int32)]) (rest := []) hG d_R_takeExpression_127 mi_R_settle mv_R_settle lk_R_165 ⟨rfl, rfl, Nat.le_of_ble_eq_true rfl⟩ cq_21 cc_2 (c_R_settle hG zm20) rfl (Nat.le_trans jcN (Nat.le_of_ble_eq_true rfl)) ?_
      cases h
      exact J.vret d_R_takeExpression_130 rfl rfl
    · rw [if_neg c] at h
      refine J.aload_n 0 d_R_takeExpression_120 rfl rfl ?_
      refine J.iconst (v := (1 : Int32)) d_R_takeExpression_121 ki_1 ?_
      refine J.nop (pc' := 122) rfl ?_
      obtain ⟨u21, m22, zm22, h⟩ := jbd_some h
      refine J.cVv Y_R_fail (As := [.int (1 : Int32)]) (rest := []) hG d_R_takeExpression_122 mi_R_fail mv_R_fail lk_R_78 ⟨rfl, rfl, Nat.le_of_ble_eq_true rfl⟩ cq_21 cc_2 (c_R_fail hG zm22) rfl (Nat.le_trans jcN (Nat.le_of_ble_eq_true rfl)) ?_
      refine J.aload_n 0 d_R_takeExpression_125 rfl rfl ?_
      refine J.iconst (v := (0 : Int32)) d_R_takeExpression_126 ki_0 ?_
      obtain ⟨u23, m24, zm24, h⟩ := jbd_some h
      refine J.cVv Y_R_settle (As := [.int (0 : Int32)]) (rest := []) hG d_R_takeExpression_127 mi_R_settle mv_R_settle lk_R_165 ⟨rfl, rfl, Nat.le_of_ble_eq_true rfl⟩ cq_21 cc_2 (c_R_settle hG zm24) rfl (Nat.le_trans jcN (Nat.le_of_ble_eq_true rfl)) ?_
      cases h
      exact J.vret d_R_takeExpression_130 rfl rfl

def f_R_takeHabit (m : jMem) : Option (Unit × jMem) :=
  jgd (jok (m 21 2).toNatClampNeg ∧ jok 1009) (if (m 21 2).toNatClampNeg = 1009 then
    jgd (jhok (m 21 6).toNatClampNeg) (
      if (m (m 21 6).toNatClampNeg 7) < (8 : Int32) then
        jgd (jhok (m 21 6).toNatClampNeg) (
          jbd (f_R_stepTo ((m 21 1) + (1 : Int32)) m) fun u37 m38 =>
          jbd (f_R_takeExpression m38) fun u39 m40 =>
          if (m40 21 4) = 0 then
            jbd (f_R_takeBy m40) fun x53 m54 =>
            if (m54 21 4) = 0 then
              jgd (jok (m54 21 2).toNatClampNeg ∧ jok 1004) (if (m54 21 2).toNatClampNeg = 1004 then
                if x53 = 0 then
                  jgd (jhok (m54 21 6).toNatClampNeg) (
                    jbd (f_H_addHabit (m54 21 6).toNatClampNeg (1 : Int32) (63 : Int32) (m (m 21 6).toNatClampNeg 10) m54) fun u60 m61 =>
                    jbd (f_R_stepTo ((m61 21 1) + (1 : Int32)) m61) fun u63 m64 =>
                    some ((), m64))
                else
                  jgd (jhok (m54 21 6).toNatClampNeg) (
                    jbd (f_H_addHabit (m54 21 6).toNatClampNeg (1 : Int32) x53 (m (m 21 6).toNatClampNeg 10) m54) fun u55 m56 =>
                    jbd (f_R_stepTo ((m56 21 1) + (1 : Int32)) m56) fun u58 m59 =>
                    some ((), m59))
              else
                jbd (f_R_fail (1 : Int32) m54) fun u65 m66 =>
                some ((), m66))
            else
              some ((), m54)
          else
            if (m40 21 4) = 0 then
              jgd (jok (m40 21 2).toNatClampNeg ∧ jok 1004) (if (m40 21 2).toNatClampNeg = 1004 then
                if (0 : Int32) = 0 then
                  jgd (jhok (m40 21 6).toNatClampNeg) (
                    jbd (f_H_addHabit (m40 21 6).toNatClampNeg (1 : Int32) (63 : Int32) (m (m 21 6).toNatClampNeg 10) m40) fun u46 m47 =>
                    jbd (f_R_stepTo ((m47 21 1) + (1 : Int32)) m47) fun u49 m50 =>
                    some ((), m50))
                else
                  jgd (jhok (m40 21 6).toNatClampNeg) (
                    jbd (f_H_addHabit (m40 21 6).toNatClampNeg (1 : Int32) (0 : Int32) (m (m 21 6).toNatClampNeg 10) m40) fun u41 m42 =>
                    jbd (f_R_stepTo ((m42 21 1) + (1 : Int32)) m42) fun u44 m45 =>
                    some ((), m45))
              else
                jbd (f_R_fail (1 : Int32) m40) fun u51 m52 =>
                some ((), m52))
            else
              some ((), m40))
      else
        jbd (f_R_fail (2 : Int32) m) fun u67 m68 =>
        some ((), m68))
  else
    jgd (jhok (m 21 6).toNatClampNeg) (
      if (m (m 21 6).toNatClampNeg 7) < (8 : Int32) then
        jgd (jhok (m 21 6).toNatClampNeg) (
          jbd (f_R_stepTo ((m 21 1) + (1 : Int32)) m) fun u3 m4 =>
          jbd (f_R_takeExpression m4) fun u5 m6 =>
          if (m6 21 4) = 0 then
            jbd (f_R_takeBy m6) fun x19 m20 =>
            if (m20 21 4) = 0 then
              jgd (jok (m20 21 2).toNatClampNeg ∧ jok 1004) (if (m20 21 2).toNatClampNeg = 1004 then
                if x19 = 0 then
                  jgd (jhok (m20 21 6).toNatClampNeg) (
                    jbd (f_H_addHabit (m20 21 6).toNatClampNeg (0 : Int32) (63 : Int32) (m (m 21 6).toNatClampNeg 10) m20) fun u26 m27 =>
                    jbd (f_R_stepTo ((m27 21 1) + (1 : Int32)) m27) fun u29 m30 =>
                    some ((), m30))
                else
                  jgd (jhok (m20 21 6).toNatClampNeg) (
                    jbd (f_H_addHabit (m20 21 6).toNatClampNeg (0 : Int32) x19 (m (m 21 6).toNatClampNeg 10) m20) fun u21 m22 =>
                    jbd (f_R_stepTo ((m22 21 1) + (1 : Int32)) m22) fun u24 m25 =>
                    some ((), m25))
              else
                jbd (f_R_fail (1 : Int32) m20) fun u31 m32 =>
                some ((), m32))
            else
              some ((), m20)
          else
            if (m6 21 4) = 0 then
              jgd (jok (m6 21 2).toNatClampNeg ∧ jok 1004) (if (m6 21 2).toNatClampNeg = 1004 then
                if (0 : Int32) = 0 then
                  jgd (jhok (m6 21 6).toNatClampNeg) (
                    jbd (f_H_addHabit (m6 21 6).toNatClampNeg (0 : Int32) (63 : Int32) (m (m 21 6).toNatClampNeg 10) m6) fun u12 m13 =>
                    jbd (f_R_stepTo ((m13 21 1) + (1 : Int32)) m13) fun u15 m16 =>
                    some ((), m16))
                else
                  jgd (jhok (m6 21 6).toNatClampNeg) (
                    jbd (f_H_addHabit (m6 21 6).toNatClampNeg (0 : Int32) (0 : Int32) (m (m 21 6).toNatClampNeg 10) m6) fun u7 m8 =>
                    jbd (f_R_stepTo ((m8 21 1) + (1 : Int32)) m8) fun u10 m11 =>
                    some ((), m11))
              else
                jbd (f_R_fail (1 : Int32) m6) fun u17 m18 =>
                some ((), m18))
            else
              some ((), m6))
      else
        jbd (f_R_fail (2 : Int32) m) fun u33 m34 =>
        some ((), m34)))
theorem c_R_takeHabit {G : jG} (hG : jFul G) {m : jMem} {r : (Unit × jMem)} (h : f_R_takeHabit m = some r) : jCt G Y_R_takeHabit [jr G 21] m (jrv r) := by
  refine jCt.ov (ls := [(0, jr G 21)]) mi_R_takeHabit (jAvR jAvN) (Nat.le_of_ble_eq_true rfl) ?_ ⟨rfl, rfl⟩
  unfold f_R_takeHabit at h
  refine J.aload_n 0 d_R_takeHabit_0 rfl rfl ?_
  refine J.getM hG d_R_takeHabit_1 fl_R_15 ck_21_2 ?_
  refine J.gets (i := 8) (nm := "ROUND") d_R_takeHabit_4 (by decide) rfl (jt_3 110 rfl rfl) ?_
  obtain ⟨g, h⟩ := jgd_some h
  refine J.acmp_ne 14 d_R_takeHabit_7 rfl g.1 g.2 (fun c => ?_) (fun c => ?_)
  · rw [if_neg c] at h
    refine J.iconst (v := (0 : Int32)) d_R_takeHabit_14 ki_0 ?_
    refine J.istore_n (lv := [(1, .int (0 : Int32)), (0, jr G 21)]) d_R_takeHabit_15 rfl (by decide) rfl ?_
    refine J.aload_n 1 d_R_takeHabit_16 rfl rfl ?_
    refine J.getM hG d_R_takeHabit_17 fl_R_41 ck_21_6 ?_
    obtain ⟨g1, h⟩ := jgd_some h
    refine J.getI hG d_R_takeHabit_20 fl_R_112 (jhok_I g1 7 rfl) ?_
    refine J.bipush (v := (8 : Int32)) d_R_takeHabit_23 kb_8 ?_
    refine J.icmp_lt 34 d_R_takeHabit_25 rfl (fun c => ?_) (fun c => ?_)
    · rw [if_pos c] at h
      refine J.aload_n 1 d_R_takeHabit_34 rfl rfl ?_
      refine J.getM hG d_R_takeHabit_35 fl_R_41 ck_21_6 ?_
      obtain ⟨g2, h⟩ := jgd_some h
      refine J.getI hG d_R_takeHabit_38 fl_R_113 (jhok_I g2 10 rfl) ?_
      refine J.istore_n (lv := [(2, .int (m (m 21 6).toNatClampNeg 10)), (1, .int (0 : Int32)), (0, jr G 21)]) d_R_takeHabit_41 rfl (by decide) rfl ?_
      refine J.aload_n 2 d_R_takeHabit_42 rfl rfl ?_
      refine J.aload_n 2 d_R_takeHabit_43 rfl rfl ?_
      refine J.getI hG d_R_takeHabit_44 fl_R_81 ck_21_1 ?_
      refine J.iconst (v := (1 : Int32)) d_R_takeHabit_47 ki_1 ?_
      refine J.nop (pc' := 48) rfl ?_
      refine J.iadd d_R_takeHabit_48 ?_
      obtain ⟨u3, m4, zm4, h⟩ := jbd_some h
      refine J.cVv Y_R_stepTo (As := [.int ((m 21 1) + (1 : Int32))]) (rest := []) hG d_R_takeHabit_49 mi_R_stepTo mv_R_stepTo lk_R_57 ⟨rfl, rfl, Nat.le_of_ble_eq_true rfl⟩ cq_21 cc_2 (c_R_stepTo hG zm4) rfl (Nat.le_trans jcN (Nat.le_of_ble_eq_true rfl)) ?_
      refine J.aload_n 2 d_R_takeHabit_52 rfl rfl ?_
      obtain ⟨u5, m6, zm6, h⟩ := jbd_some h
      refine J.cVv Y_R_takeExpression (As := []) (rest := []) hG d_R_takeHabit_53 mi_R_takeExpression mv_R_takeExpression lk_R_116 ⟨rfl, rfl, Nat.le_of_ble_eq_true rfl⟩ cq_21 cc_2 (c_R_takeExpression hG zm6) rfl (Nat.le_trans jcN (Nat.le_of_ble_eq_true rfl)) ?_
      refine J.aload_n 2 d_R_takeHabit_56 rfl rfl ?_
      refine J.getI hG d_R_takeHabit_57 fl_R_54 ck_21_4 ?_
      refine J.if_ne 70 d_R_takeHabit_60 rfl (fun c => ?_) (fun c => ?_)
      · rw [if_neg c] at h
        refine J.iconst (v := (0 : Int32)) d_R_takeHabit_70 ki_0 ?_
        refine J.istore_n (lv := [(3, .int (0 : Int32)), (2, .int (m (m 21 6).toNatClampNeg 10)), (1, .int (0 : Int32)), (0, jr G 21)]) d_R_takeHabit_71 rfl (by decide) rfl ?_
        refine J.aload_n 3 d_R_takeHabit_72 rfl rfl ?_
        refine J.getI hG d_R_takeHabit_73 fl_R_54 ck_21_4 ?_
        refine J.if_eq 80 d_R_takeHabit_76 rfl (fun c => ?_) (fun c => ?_)
        · rw [if_pos c] at h
          refine J.aload_n 3 d_R_takeHabit_80 rfl rfl ?_
          refine J.getM hG d_R_takeHabit_81 fl_R_15 ck_21_2 ?_
          refine J.gets (i := 3) (nm := "SEMICOLON") d_R_takeHabit_84 (by decide) rfl (jt_3 101 rfl rfl) ?_
          obtain ⟨g, h⟩ := jgd_some h
          refine J.acmp_eq 96 d_R_takeHabit_87 rfl g.1 g.2 (fun c => ?_) (fun c => ?_)
          · rw [if_pos c] at h
            refine J.aload_n 3 d_R_takeHabit_96 rfl rfl ?_
            refine J.getM hG d_R_takeHabit_97 fl_R_41 ck_21_6 ?_
            refine J.iload_n 2 d_R_takeHabit_100 rfl rfl ?_
            refine J.iload_n 0 d_R_takeHabit_101 rfl rfl ?_
            refine J.if_ne 110 d_R_takeHabit_102 rfl (fun c => ?_) (fun c => ?_)
            · rw [if_neg c] at h
              refine J.iload_n 0 d_R_takeHabit_110 rfl rfl ?_
              refine J.iload_n 1 d_R_takeHabit_111 rfl rfl ?_
              obtain ⟨g9, h⟩ := jgd_some h
              obtain ⟨u7, m8, zm8, h⟩ := jbd_some h
              refine J.cVv Y_H_addHabit (As := [.int (0 : Int32), .int (0 : Int32), .int (m (m 21 6).toNatClampNeg 10)]) (rest := []) hG d_R_takeHabit_112 mi_H_addHabit mv_H_addHabit lk_R_123 ⟨rfl, rfl, Nat.le_of_ble_eq_true rfl⟩ (jhok_q g9) cc_1 (c_H_addHabit hG g9 zm8) rfl (Nat.le_trans jcN (Nat.le_of_ble_eq_true rfl)) ?_
              refine J.aload_n 3 d_R_takeHabit_115 rfl rfl ?_
              refine J.aload_n 3 d_R_takeHabit_116 rfl rfl ?_
              refine J.getI hG d_R_takeHabit_117 fl_R_81 ck_21_1 ?_
              refine J.iconst (v := (1 : Int32)) d_R_takeHabit_120 ki_1 ?_
              refine J.iadd d_R_takeHabit_121 ?_
              refine J.nop (pc' := 122) rfl ?_
              obtain ⟨u10, m11, zm11, h⟩ := jbd_some h
              refine J.cVv Y_R_stepTo (As := [.int ((m8 21 1) + (1 : Int32))]) (rest := []) hG d_R_takeHabit_122 mi_R_stepTo mv_R_stepTo lk_R_57 ⟨rfl, rfl, Nat.le_of_ble_eq_true rfl⟩ cq_21 cc_2 (c_R_stepTo hG zm11) rfl (Nat.le_trans jcN (Nat.le_of_ble_eq_true rfl)) ?_
              cases h
              exact J.vret d_R_takeHabit_125 rfl rfl
            · rw [if_pos c] at h
              refine J.bipush (v := (63 : Int32)) d_R_takeHabit_105 kb_63 ?_
              refine J.goto 111 d_R_takeHabit_107 rfl ?_
              refine J.iload_n 1 d_R_takeHabit_111 rfl rfl ?_
              obtain ⟨g14, h⟩ := jgd_some h
              obtain ⟨u12, m13, zm13, h⟩ := jbd_some h
              refine J.cVv Y_H_addHabit (As := [.int (0 : Int32), .int (63 : Int32), .int (m (m 21 6).toNatClampNeg 10)]) (rest := []) hG d_R_takeHabit_112 mi_H_addHabit mv_H_addHabit lk_R_123 ⟨rfl, rfl, Nat.le_of_ble_eq_true rfl⟩ (jhok_q g14) cc_1 (c_H_addHabit hG g14 zm13) rfl (Nat.le_trans jcN (Nat.le_of_ble_eq_true rfl)) ?_
              refine J.aload_n 3 d_R_takeHabit_115 rfl rfl ?_
              refine J.aload_n 3 d_R_takeHabit_116 rfl rfl ?_
              refine J.getI hG d_R_takeHabit_117 fl_R_81 ck_21_1 ?_
              refine J.iconst (v := (1 : Int32)) d_R_takeHabit_120 ki_1 ?_
              refine J.iadd d_R_takeHabit_121 ?_
              obtain ⟨u15, m16, zm16, h⟩ := jbd_some h
              refine J.cVv Y_R_stepTo (As := [.int ((m13 21 1) + (1 : Int32))]) (rest := []) hG d_R_takeHabit_122 mi_R_stepTo mv_R_stepTo lk_R_57 ⟨rfl, rfl, Nat.le_of_ble_eq_true rfl⟩ cq_21 cc_2 (c_R_stepTo hG zm16) rfl (Nat.le_trans jcN (Nat.le_of_ble_eq_true rfl)) ?_
              refine J.nop (pc' := 125) rfl ?_
              cases h
              exact J.vret d_R_takeHabit_125 rfl rfl
          · rw [if_neg c] at h
            refine J.aload_n 3 d_R_takeHabit_90 rfl rfl ?_
            refine J.iconst (v := (1 : Int32)) d_R_takeHabit_91 ki_1 ?_
            obtain ⟨u17, m18, zm18, h⟩ := jbd_some h
            refine J.cVv Y_R_fail (As := [.int (1 : Int32)]) (rest := []) hG d_R_takeHabit_92 mi_R_fail mv_R_fail lk_R_78 ⟨rfl, rfl, Nat.le_of_ble_eq_true rfl⟩ cq_21 cc_2 (c_R_fail hG zm18) rfl (Nat.le_trans jcN (Nat.le_of_ble_eq_true rfl)) ?_
            cases h
            exact J.vret d_R_takeHabit_95 rfl rfl
        · rw [if_neg c] at h
          cases h
          exact J.vret d_R_takeHabit_79 rfl rfl
      · rw [if_pos c] at h
        refine J.aload_n 2 d_R_takeHabit_63 rfl rfl ?_
        refine J.nop (pc' := 64) rfl ?_
        obtain ⟨x19, m20, zm20, h⟩ := jbd_some h
        refine J.cVi Y_R_takeBy (As := []) (rest := []) hG d_R_takeHabit_64 mi_R_takeBy mv_R_takeBy lk_R_119 ⟨rfl, rfl, Nat.le_of_ble_eq_true rfl⟩ cq_21 cc_2 (c_R_takeBy hG zm20) rfl (Nat.le_trans jcN (Nat.le_of_ble_eq_true rfl)) ?_
        refine J.goto 71 d_R_takeHabit_67 rfl ?_
        refine J.istore_n (lv := [(3, .int x19), (2, .int (m (m 21 6).toNatClampNeg 10)), (1, .int (0 : Int32)), (0, jr G 21)]) d_R_takeHabit_71 rfl (by decide) rfl ?_
        refine J.aload_n 3 d_R_takeHabit_72 rfl rfl ?_
        refine J.getI hG d_R_takeHabit_73 fl_R_54 ck_21_4 ?_
        refine J.if_eq 80 d_R_takeHabit_76 rfl (fun c => ?_) (fun c => ?_)
        · rw [if_pos c] at h
          refine J.aload_n 3 d_R_takeHabit_80 rfl rfl ?_
          refine J.getM hG d_R_takeHabit_81 fl_R_15 ck_21_2 ?_
          refine J.gets (i := 3) (nm := "SEMICOLON") d_R_takeHabit_84 (by decide) rfl (jt_3 101 rfl rfl) ?_
          obtain ⟨g, h⟩ := jgd_some h
          refine J.acmp_eq 96 d_R_takeHabit_87 rfl g.1 g.2 (fun c => ?_) (fun c => ?_)
          · rw [if_pos c] at h
            refine J.aload_n 3 d_R_takeHabit_96 rfl rfl ?_
            refine J.getM hG d_R_takeHabit_97 fl_R_41 ck_21_6 ?_
            refine J.iload_n 2 d_R_takeHabit_100 rfl rfl ?_
            refine J.iload_n 0 d_R_takeHabit_101 rfl rfl ?_
            refine J.if_ne 110 d_R_takeHabit_102 rfl (fun c => ?_) (fun c => ?_)
            · rw [if_neg c] at h
              refine J.iload_n 0 d_R_takeHabit_110 rfl rfl ?_
              refine J.iload_n 1 d_R_takeHabit_111 rfl rfl ?_
              obtain ⟨g23, h⟩ := jgd_some h
              obtain ⟨u21, m22, zm22, h⟩ := jbd_some h
              refine J.cVv Y_H_addHabit (As := [.int (0 : Int32), .int x19, .int (m (m 21 6).toNatClampNeg 10)]) (rest := []) hG d_R_takeHabit_112 mi_H_addHabit mv_H_addHabit lk_R_123 ⟨rfl, rfl, Nat.le_of_ble_eq_true rfl⟩ (jhok_q g23) cc_1 (c_H_addHabit hG g23 zm22) rfl (Nat.le_trans jcN (Nat.le_of_ble_eq_true rfl)) ?_
              refine J.aload_n 3 d_R_takeHabit_115 rfl rfl ?_
              refine J.aload_n 3 d_R_takeHabit_116 rfl rfl ?_
              refine J.getI hG d_R_takeHabit_117 fl_R_81 ck_21_1 ?_
              refine J.iconst (v := (1 : Int32)) d_R_takeHabit_120 ki_1 ?_
              refine J.iadd d_R_takeHabit_121 ?_
              refine J.nop (pc' := 122) rfl ?_
              obtain ⟨u24, m25, zm25, h⟩ := jbd_some h
              refine J.cVv Y_R_stepTo (As := [.int ((m22 21 1) + (1 : Int32))]) (rest := []) hG d_R_takeHabit_122 mi_R_stepTo mv_R_stepTo lk_R_57 ⟨rfl, rfl, Nat.le_of_ble_eq_true rfl⟩ cq_21 cc_2 (c_R_stepTo hG zm25) rfl (Nat.le_trans jcN (Nat.le_of_ble_eq_true rfl)) ?_
              cases h
              exact J.vret d_R_takeHabit_125 rfl rfl
            · rw [if_pos c] at h
              refine J.bipush (v := (63 : Int32)) d_R_takeHabit_105 kb_63 ?_
              refine J.goto 111 d_R_takeHabit_107 rfl ?_
              refine J.iload_n 1 d_R_takeHabit_111 rfl rfl ?_
              obtain ⟨g28, h⟩ := jgd_some h
              obtain ⟨u26, m27, zm27, h⟩ := jbd_some h
              refine J.cVv Y_H_addHabit (As := [.int (0 : Int32), .int (63 : Int32), .int (m (m 21 6).toNatClampNeg 10)]) (rest := []) hG d_R_takeHabit_112 mi_H_addHabit mv_H_addHabit lk_R_123 ⟨rfl, rfl, Nat.le_of_ble_eq_true rfl⟩ (jhok_q g28) cc_1 (c_H_addHabit hG g28 zm27) rfl (Nat.le_trans jcN (Nat.le_of_ble_eq_true rfl)) ?_
              refine J.aload_n 3 d_R_takeHabit_115 rfl rfl ?_
              refine J.aload_n 3 d_R_takeHabit_116 rfl rfl ?_
              refine J.getI hG d_R_takeHabit_117 fl_R_81 ck_21_1 ?_
              refine J.iconst (v := (1 : Int32)) d_R_takeHabit_120 ki_1 ?_
              refine J.iadd d_R_takeHabit_121 ?_
              obtain ⟨u29, m30, zm30, h⟩ := jbd_some h
              refine J.cVv Y_R_stepTo (As := [.int ((m27 21 1) + (1 : Int32))]) (rest := []) hG d_R_takeHabit_122 mi_R_stepTo mv_R_stepTo lk_R_57 ⟨rfl, rfl, Nat.le_of_ble_eq_true rfl⟩ cq_21 cc_2 (c_R_stepTo hG zm30) rfl (Nat.le_trans jcN (Nat.le_of_ble_eq_true rfl)) ?_
              refine J.nop (pc' := 125) rfl ?_
              cases h
              exact J.vret d_R_takeHabit_125 rfl rfl
          · rw [if_neg c] at h
            refine J.aload_n 3 d_R_takeHabit_90 rfl rfl ?_
            refine J.iconst (v := (1 : Int32)) d_R_takeHabit_91 ki_1 ?_
            obtain ⟨u31, m32, zm32, h⟩ := jbd_some h
            refine J.cVv Y_R_fail (As := [.int (1 : Int32)]) (rest := []) hG d_R_takeHabit_92 mi_R_fail mv_R_fail lk_R_78 ⟨rfl, rfl, Nat.le_of_ble_eq_true rfl⟩ cq_21 cc_2 (c_R_fail hG zm32) rfl (Nat.le_trans jcN (Nat.le_of_ble_eq_true rfl)) ?_
            cases h
            exact J.vret d_R_takeHabit_95 rfl rfl
        · rw [if_neg c] at h
          cases h
          exact J.vret d_R_takeHabit_79 rfl rfl
    · rw [if_neg c] at h
      refine J.aload_n 1 d_R_takeHabit_28 rfl rfl ?_
      refine J.nop (pc' := 29) rfl ?_
      refine J.iconst (v := (2 : Int32)) d_R_takeHabit_29 ki_2 ?_
      obtain ⟨u33, m34, zm34, h⟩ := jbd_some h
      refine J.cVv Y_R_fail (As := [.int (2 : Int32)]) (rest := []) hG d_R_takeHabit_30 mi_R_fail mv_R_fail lk_R_78 ⟨rfl, rfl, Nat.le_of_ble_eq_true rfl⟩ cq_21 cc_2 (c_R_fail hG zm34) rfl (Nat.le_trans jcN (Nat.le_of_ble_eq_true rfl)) ?_
      cases h
      exact J.vret d_R_takeHabit_33 rfl rfl
  · rw [if_pos c] at h
    refine J.iconst (v := (1 : Int32)) d_R_takeHabit_10 ki_1 ?_
    refine J.goto 15 d_R_takeHabit_11 rfl ?_
    refine J.istore_n (lv := [(1, .int (1 : Int32)), (0, jr G 21)]) d_R_takeHabit_15 rfl (by decide) rfl ?_
    refine J.aload_n 1 d_R_takeHabit_16 rfl rfl ?_
    refine J.getM hG d_R_takeHabit_17 fl_R_41 ck_21_6 ?_
    obtain ⟨g35, h⟩ := jgd_some h
    refine J.getI hG d_R_takeHabit_20 fl_R_112 (jhok_I g35 7 rfl) ?_
    refine J.bipush (v := (8 : Int32)) d_R_takeHabit_23 kb_8 ?_
    refine J.icmp_lt 34 d_R_takeHabit_25 rfl (fun c => ?_) (fun c => ?_)
    · rw [if_pos c] at h
      refine J.aload_n 1 d_R_takeHabit_34 rfl rfl ?_
      refine J.getM hG d_R_takeHabit_35 fl_R_41 ck_21_6 ?_
      obtain ⟨g36, h⟩ := jgd_some h
      refine J.getI hG d_R_takeHabit_38 fl_R_113 (jhok_I g36 10 rfl) ?_
      refine J.istore_n (lv := [(2, .int (m (m 21 6).toNatClampNeg 10)), (1, .int (1 : Int32)), (0, jr G 21)]) d_R_takeHabit_41 rfl (by decide) rfl ?_
      refine J.aload_n 2 d_R_takeHabit_42 rfl rfl ?_
      refine J.aload_n 2 d_R_takeHabit_43 rfl rfl ?_
      refine J.getI hG d_R_takeHabit_44 fl_R_81 ck_21_1 ?_
      refine J.iconst (v := (1 : Int32)) d_R_takeHabit_47 ki_1 ?_
      refine J.nop (pc' := 48) rfl ?_
      refine J.iadd d_R_takeHabit_48 ?_
      obtain ⟨u37, m38, zm38, h⟩ := jbd_some h
      refine J.cVv Y_R_stepTo (As := [.int ((m 21 1) + (1 : Int32))]) (rest := []) hG d_R_takeHabit_49 mi_R_stepTo mv_R_stepTo lk_R_57 ⟨rfl, rfl, Nat.le_of_ble_eq_true rfl⟩ cq_21 cc_2 (c_R_stepTo hG zm38) rfl (Nat.le_trans jcN (Nat.le_of_ble_eq_true rfl)) ?_
      refine J.aload_n 2 d_R_takeHabit_52 rfl rfl ?_
      obtain ⟨u39, m40, zm40, h⟩ := jbd_some h
      refine J.cVv Y_R_takeExpression (As := []) (rest := []) hG d_R_takeHabit_53 mi_R_takeExpression mv_R_takeExpression lk_R_116 ⟨rfl, rfl, Nat.le_of_ble_eq_true rfl⟩ cq_21 cc_2 (c_R_takeExpression hG zm40) rfl (Nat.le_trans jcN (Nat.le_of_ble_eq_true rfl)) ?_
      refine J.aload_n 2 d_R_takeHabit_56 rfl rfl ?_
      refine J.getI hG d_R_takeHabit_57 fl_R_54 ck_21_4 ?_
      refine J.if_ne 70 d_R_takeHabit_60 rfl (fun c => ?_) (fun c => ?_)
      · rw [if_neg c] at h
        refine J.iconst (v := (0 : Int32)) d_R_takeHabit_70 ki_0 ?_
        refine J.istore_n (lv := [(3, .int (0 : Int32)), (2, .int (m (m 21 6).toNatClampNeg 10)), (1, .int (1 : Int32)), (0, jr G 21)]) d_R_takeHabit_71 rfl (by decide) rfl ?_
        refine J.aload_n 3 d_R_takeHabit_72 rfl rfl ?_
        refine J.getI hG d_R_takeHabit_73 fl_R_54 ck_21_4 ?_
        refine J.if_eq 80 d_R_takeHabit_76 rfl (fun c => ?_) (fun c => ?_)
        · rw [if_pos c] at h
          refine J.aload_n 3 d_R_takeHabit_80 rfl rfl ?_
          refine J.getM hG d_R_takeHabit_81 fl_R_15 ck_21_2 ?_
          refine J.gets (i := 3) (nm := "SEMICOLON") d_R_takeHabit_84 (by decide) rfl (jt_3 101 rfl rfl) ?_
          obtain ⟨g, h⟩ := jgd_some h
          refine J.acmp_eq 96 d_R_takeHabit_87 rfl g.1 g.2 (fun c => ?_) (fun c => ?_)
          · rw [if_pos c] at h
            refine J.aload_n 3 d_R_takeHabit_96 rfl rfl ?_
            refine J.getM hG d_R_takeHabit_97 fl_R_41 ck_21_6 ?_
            refine J.iload_n 2 d_R_takeHabit_100 rfl rfl ?_
            refine J.iload_n 0 d_R_takeHabit_101 rfl rfl ?_
            refine J.if_ne 110 d_R_takeHabit_102 rfl (fun c => ?_) (fun c => ?_)
            · rw [if_neg c] at h
              refine J.iload_n 0 d_R_takeHabit_110 rfl rfl ?_
              refine J.iload_n 1 d_R_takeHabit_111 rfl rfl ?_
              obtain ⟨g43, h⟩ := jgd_some h
              obtain ⟨u41, m42, zm42, h⟩ := jbd_some h
              refine J.cVv Y_H_addHabit (As := [.int (1 : Int32), .int (0 : Int32), .int (m (m 21 6).toNatClampNeg 10)]) (rest := []) hG d_R_takeHabit_112 mi_H_addHabit mv_H_addHabit lk_R_123 ⟨rfl, rfl, Nat.le_of_ble_eq_true rfl⟩ (jhok_q g43) cc_1 (c_H_addHabit hG g43 zm42) rfl (Nat.le_trans jcN (Nat.le_of_ble_eq_true rfl)) ?_
              refine J.aload_n 3 d_R_takeHabit_115 rfl rfl ?_
              refine J.aload_n 3 d_R_takeHabit_116 rfl rfl ?_
              refine J.getI hG d_R_takeHabit_117 fl_R_81 ck_21_1 ?_
              refine J.iconst (v := (1 : Int32)) d_R_takeHabit_120 ki_1 ?_
              refine J.iadd d_R_takeHabit_121 ?_
              refine J.nop (pc' := 122) rfl ?_
              obtain ⟨u44, m45, zm45, h⟩ := jbd_some h
              refine J.cVv Y_R_stepTo (As := [.int ((m42 21 1) + (1 : Int32))]) (rest := []) hG d_R_takeHabit_122 mi_R_stepTo mv_R_stepTo lk_R_57 ⟨rfl, rfl, Nat.le_of_ble_eq_true rfl⟩ cq_21 cc_2 (c_R_stepTo hG zm45) rfl (Nat.le_trans jcN (Nat.le_of_ble_eq_true rfl)) ?_
              cases h
              exact J.vret d_R_takeHabit_125 rfl rfl
            · rw [if_pos c] at h
              refine J.bipush (v := (63 : Int32)) d_R_takeHabit_105 kb_63 ?_
              refine J.goto 111 d_R_takeHabit_107 rfl ?_
              refine J.iload_n 1 d_R_takeHabit_111 rfl rfl ?_
              obtain ⟨g48, h⟩ := jgd_some h
              obtain ⟨u46, m47, zm47, h⟩ := jbd_some h
              refine J.cVv Y_H_addHabit (As := [.int (1 : Int32), .int (63 : Int32), .int (m (m 21 6).toNatClampNeg 10)]) (rest := []) hG d_R_takeHabit_112 mi_H_addHabit mv_H_addHabit lk_R_123 ⟨rfl, rfl, Nat.le_of_ble_eq_true rfl⟩ (jhok_q g48) cc_1 (c_H_addHabit hG g48 zm47) rfl (Nat.le_trans jcN (Nat.le_of_ble_eq_true rfl)) ?_
              refine J.aload_n 3 d_R_takeHabit_115 rfl rfl ?_
              refine J.aload_n 3 d_R_takeHabit_116 rfl rfl ?_
              refine J.getI hG d_R_takeHabit_117 fl_R_81 ck_21_1 ?_
              refine J.iconst (v := (1 : Int32)) d_R_takeHabit_120 ki_1 ?_
              refine J.iadd d_R_takeHabit_121 ?_
              obtain ⟨u49, m50, zm50, h⟩ := jbd_some h
              refine J.cVv Y_R_stepTo (As := [.int ((m47 21 1) + (1 : Int32))]) (rest := []) hG d_R_takeHabit_122 mi_R_stepTo mv_R_stepTo lk_R_57 ⟨rfl, rfl, Nat.le_of_ble_eq_true rfl⟩ cq_21 cc_2 (c_R_stepTo hG zm50) rfl (Nat.le_trans jcN (Nat.le_of_ble_eq_true rfl)) ?_
              refine J.nop (pc' := 125) rfl ?_
              cases h
              exact J.vret d_R_takeHabit_125 rfl rfl
          · rw [if_neg c] at h
            refine J.aload_n 3 d_R_takeHabit_90 rfl rfl ?_
            refine J.iconst (v := (1 : Int32)) d_R_takeHabit_91 ki_1 ?_
            obtain ⟨u51, m52, zm52, h⟩ := jbd_some h
            refine J.cVv Y_R_fail (As := [.int (1 : Int32)]) (rest := []) hG d_R_takeHabit_92 mi_R_fail mv_R_fail lk_R_78 ⟨rfl, rfl, Nat.le_of_ble_eq_true rfl⟩ cq_21 cc_2 (c_R_fail hG zm52) rfl (Nat.le_trans jcN (Nat.le_of_ble_eq_true rfl)) ?_
            cases h
            exact J.vret d_R_takeHabit_95 rfl rfl
        · rw [if_neg c] at h
          cases h
          exact J.vret d_R_takeHabit_79 rfl rfl
      · rw [if_pos c] at h
        refine J.aload_n 2 d_R_takeHabit_63 rfl rfl ?_
        refine J.nop (pc' := 64) rfl ?_
        obtain ⟨x53, m54, zm54, h⟩ := jbd_some h
        refine J.cVi Y_R_takeBy (As := []) (rest := []) hG d_R_takeHabit_64 mi_R_takeBy mv_R_takeBy lk_R_119 ⟨rfl, rfl, Nat.le_of_ble_eq_true rfl⟩ cq_21 cc_2 (c_R_takeBy hG zm54) rfl (Nat.le_trans jcN (Nat.le_of_ble_eq_true rfl)) ?_
        refine J.goto 71 d_R_takeHabit_67 rfl ?_
        refine J.istore_n (lv := [(3, .int x53), (2, .int (m (m 21 6).toNatClampNeg 10)), (1, .int (1 : Int32)), (0, jr G 21)]) d_R_takeHabit_71 rfl (by decide) rfl ?_
        refine J.aload_n 3 d_R_takeHabit_72 rfl rfl ?_
        refine J.getI hG d_R_takeHabit_73 fl_R_54 ck_21_4 ?_
        refine J.if_eq 80 d_R_takeHabit_76 rfl (fun c => ?_) (fun c => ?_)
        · rw [if_pos c] at h
          refine J.aload_n 3 d_R_takeHabit_80 rfl rfl ?_
          refine J.getM hG d_R_takeHabit_81 fl_R_15 ck_21_2 ?_
          refine J.gets (i := 3) (nm := "SEMICOLON") d_R_takeHabit_84 (by decide) rfl (jt_3 101 rfl rfl) ?_
          obtain ⟨g, h⟩ := jgd_some h
          refine J.acmp_eq 96 d_R_takeHabit_87 rfl g.1 g.2 (fun c => ?_) (fun c => ?_)
          · rw [if_pos c] at h
            refine J.aload_n 3 d_R_takeHabit_96 rfl rfl ?_
            refine J.getM hG d_R_takeHabit_97 fl_R_41 ck_21_6 ?_
            refine J.iload_n 2 d_R_takeHabit_100 rfl rfl ?_
            refine J.iload_n 0 d_R_takeHabit_101 rfl rfl ?_
            refine J.if_ne 110 d_R_takeHabit_102 rfl (fun c => ?_) (fun c => ?_)
            · rw [if_neg c] at h
              refine J.iload_n 0 d_R_takeHabit_110 rfl rfl ?_
              refine J.iload_n 1 d_R_takeHabit_111 rfl rfl ?_
              obtain ⟨g57, h⟩ := jgd_some h
              obtain ⟨u55, m56, zm56, h⟩ := jbd_some h
              refine J.cVv Y_H_addHabit (As := [.int (1 : Int32), .int x53, .int (m (m 21 6).toNatClampNeg 10)]) (rest := []) hG d_R_takeHabit_112 mi_H_addHabit mv_H_addHabit lk_R_123 ⟨rfl, rfl, Nat.le_of_ble_eq_true rfl⟩ (jhok_q g57) cc_1 (c_H_addHabit hG g57 zm56) rfl (Nat.le_trans jcN (Nat.le_of_ble_eq_true rfl)) ?_
              refine J.aload_n 3 d_R_takeHabit_115 rfl rfl ?_
              refine J.aload_n 3 d_R_takeHabit_116 rfl rfl ?_
              refine J.getI hG d_R_takeHabit_117 fl_R_81 ck_21_1 ?_
              refine J.iconst (v := (1 : Int32)) d_R_takeHabit_120 ki_1 ?_
              refine J.iadd d_R_takeHabit_121 ?_
              refine J.nop (pc' := 122) rfl ?_
              obtain ⟨u58, m59, zm59, h⟩ := jbd_some h
              refine J.cVv Y_R_stepTo (As := [.int ((m56 21 1) + (1 : Int32))]) (rest := []) hG d_R_takeHabit_122 mi_R_stepTo mv_R_stepTo lk_R_57 ⟨rfl, rfl, Nat.le_of_ble_eq_true rfl⟩ cq_21 cc_2 (c_R_stepTo hG zm59) rfl (Nat.le_trans jcN (Nat.le_of_ble_eq_true rfl)) ?_
              cases h
              exact J.vret d_R_takeHabit_125 rfl rfl
            · rw [if_pos c] at h
              refine J.bipush (v := (63 : Int32)) d_R_takeHabit_105 kb_63 ?_
              refine J.goto 111 d_R_takeHabit_107 rfl ?_
              refine J.iload_n 1 d_R_takeHabit_111 rfl rfl ?_
              obtain ⟨g62, h⟩ := jgd_some h
              obtain ⟨u60, m61, zm61, h⟩ := jbd_some h
              refine J.cVv Y_H_addHabit (As := [.int (1 : Int32), .int (63 : Int32), .int (m (m 21 6).toNatClampNeg 10)]) (rest := []) hG d_R_takeHabit_112 mi_H_addHabit mv_H_addHabit lk_R_123 ⟨rfl, rfl, Nat.le_of_ble_eq_true rfl⟩ (jhok_q g62) cc_1 (c_H_addHabit hG g62 zm61) rfl (Nat.le_trans jcN (Nat.le_of_ble_eq_true rfl)) ?_
              refine J.aload_n 3 d_R_takeHabit_115 rfl rfl ?_
              refine J.aload_n 3 d_R_takeHabit_116 rfl rfl ?_
              refine J.getI hG d_R_takeHabit_117 fl_R_81 ck_21_1 ?_
              refine J.iconst (v := (1 : Int32)) d_R_takeHabit_120 ki_1 ?_
              refine J.iadd d_R_takeHabit_121 ?_
              obtain ⟨u63, m64, zm64, h⟩ := jbd_some h
              refine J.cVv Y_R_stepTo (As := [.int ((m61 21 1) + (1 : Int32))]) (rest := []) hG d_R_takeHabit_122 mi_R_stepTo mv_R_stepTo lk_R_57 ⟨rfl, rfl, Nat.le_of_ble_eq_true rfl⟩ cq_21 cc_2 (c_R_stepTo hG zm64) rfl (Nat.le_trans jcN (Nat.le_of_ble_eq_true rfl)) ?_
              refine J.nop (pc' := 125) rfl ?_
              cases h
              exact J.vret d_R_takeHabit_125 rfl rfl
          · rw [if_neg c] at h
            refine J.aload_n 3 d_R_takeHabit_90 rfl rfl ?_
            refine J.iconst (v := (1 : Int32)) d_R_takeHabit_91 ki_1 ?_
            obtain ⟨u65, m66, zm66, h⟩ := jbd_some h
            refine J.cVv Y_R_fail (As := [.int (1 : Int32)]) (rest := []) hG d_R_takeHabit_92 mi_R_fail mv_R_fail lk_R_78 ⟨rfl, rfl, Nat.le_of_ble_eq_true rfl⟩ cq_21 cc_2 (c_R_fail hG zm66) rfl (Nat.le_trans jcN (Nat.le_of_ble_eq_true rfl)) ?_
            cases h
            exact J.vret d_R_takeHabit_95 rfl rfl
        · rw [if_neg c] at h
          cases h
          exact J.vret d_R_takeHabit_79 rfl rfl
    · rw [if_neg c] at h
      refine J.aload_n 1 d_R_takeHabit_28 rfl rfl ?_
      refine J.iconst (v := (2 : Int32)) d_R_takeHabit_29 ki_2 ?_
      refine J.nop (pc' := 30) rfl ?_
      obtain ⟨u67, m68, zm68, h⟩ := jbd_some h
      refine J.cVv Y_R_fail (As := [.int (2 : Int32)]) (rest := []) hG d_R_takeHabit_30 mi_R_fail mv_R_fail lk_R_78 ⟨rfl, rfl, Nat.le_of_ble_eq_true rfl⟩ cq_21 cc_2 (c_R_fail hG zm68) rfl (Nat.le_trans jcN (Nat.le_of_ble_eq_true rfl)) ?_
      cases h
      exact J.vret d_R_takeHabit_33 rfl rfl

def lp_H_addRule_2 (hb : Nat) (v1 : Nat) (v2 : Int32) (k29 : jMem → Option (Unit × jMem)) : Nat → Int32 → jMem → Option (Unit × jMem)
  | 0, _, _ => none
  | n + 1, v3, m =>
    if (6 : Int32) ≤ v3 then
      k29 m
    else
      jbd (f_C_isIn v2 v3 m) fun x1 m2 =>
      if x1 = 0 then
        lp_H_addRule_2 hb v1 v2 k29 n (v3 + (1 : Int32)) m2
      else
        jgd (jtk v1) (jst 4 m2 (hb + 1) v3 (Int32.ofNat v1) fun m3 =>
        lp_H_addRule_2 hb v1 v2 k29 n (v3 + (1 : Int32)) m3)
def f_H_addRule (hb : Nat) (v1 : Nat) (v2 : Int32) (m : jMem) : Option (Unit × jMem) :=
  lp_H_addRule_2 hb v1 v2 (fun m4 =>
    jpu m4 hb 1 ((m4 hb 1) ||| v2) fun m5 =>
    jpu m5 hb 2 ((m5 hb 2) + (1 : Int32)) fun m6 =>
    some ((), m6)) 5000 (0 : Int32) m
theorem jlp_H_addRule_2 {G : jG} (hG : jFul G) {hb : Nat} (hh : jhok hb) (v1 : Nat) (v2 : Int32) (k29 : jMem → Option (Unit × jMem))
    (hk29 : ∀ (m : jMem) (r : (Unit × jMem)), k29 m = some r → J G Y_H_addRule 29 [(0, jr G hb), (2, .int v2)] [] m (jrv r)) : ∀ (n : Nat) (v3 : Int32) (m : jMem) (r : (Unit × jMem)), lp_H_addRule_2 hb v1 v2 k29 n v3 m = some r → J G Y_H_addRule 2 [(0, jr G hb), (1, jr G v1), (2, .int v2), (3, .int v3)] [] m (jrv r) := by
  intro n
  induction n with
  | zero => intro v3 m r h; unfold lp_H_addRule_2 at h; cases h
  | succ n ih =>
    intro v3 m r h
    unfold lp_H_addRule_2 at h
    refine J.iload_n 3 d_H_addRule_2 rfl rfl ?_
    refine J.bipush (v := (6 : Int32)) d_H_addRule_3 kb_6 ?_
    refine J.icmp_ge 29 d_H_addRule_5 rfl (fun c => ?_) (fun c => ?_)
    · rw [if_pos c] at h
      exact J.sub (ls' := [(0, jr G hb), (2, .int v2)]) [0, 2] rfl (hk29  m _ h)
    · rw [if_neg c] at h
      refine J.iload_n 2 d_H_addRule_8 rfl rfl ?_
      refine J.iload_n 3 d_H_addRule_9 rfl rfl ?_
      obtain ⟨x1, m2, zm2, h⟩ := jbd_some h
      refine J.cSi Y_C_isIn (As := [.int v2, .int v3]) (rest := []) d_H_addRule_10 mi_C_isIn ms_C_isIn lk_H_56 ⟨rfl, rfl, Nat.le_of_ble_eq_true rfl⟩ (c_C_isIn hG zm2) rfl (Nat.le_trans jcN (Nat.le_of_ble_eq_true rfl)) ?_
      refine J.if_eq 23 d_H_addRule_13 rfl (fun c => ?_) (fun c => ?_)
      · rw [if_pos c] at h
        refine J.iinc 3 (v := (1 : Int32)) (lv := [(3, .int (v3 + (1 : Int32))), (0, jr G hb), (1, jr G v1), (2, .int v2)]) d_H_addRule_23 rfl ki_1 (by decide) rfl ?_
        refine J.goto 2 d_H_addRule_26 rfl ?_
        exact J.sub (ls' := [(0, jr G hb), (1, jr G v1), (2, .int v2), (3, .int (v3 + (1 : Int32)))]) [1, 2, 3, 0] rfl (ih (v3 + (1 : Int32)) m2 _ h)
      · rw [if_neg c] at h
        refine J.aload_n 0 d_H_addRule_16 rfl rfl ?_
        refine J.nop (pc' := 17) rfl ?_
        refine J.getF (n := hb + 1) hG d_H_addRule_17 fl_H_11 (jhok_F hh 0 rfl) (jhok_fx hh 0 1 rfl rfl) ?_
        refine J.iload_n 3 d_H_addRule_20 rfl rfl ?_
        refine J.aload_n 1 d_H_addRule_21 rfl rfl ?_
        obtain ⟨gt, h⟩ := jgd_some h
        obtain ⟨m3, hm3, g, h⟩ := jst_some h
        refine J.s4 hG d_H_addRule_22 g gt hm3 ?_
        refine J.iinc 3 (v := (1 : Int32)) (lv := [(3, .int (v3 + (1 : Int32))), (0, jr G hb), (1, jr G v1), (2, .int v2)]) d_H_addRule_23 rfl ki_1 (by decide) rfl ?_
        refine J.goto 2 d_H_addRule_26 rfl ?_
        exact J.sub (ls' := [(0, jr G hb), (1, jr G v1), (2, .int v2), (3, .int (v3 + (1 : Int32)))]) [1, 2, 3, 0] rfl (ih (v3 + (1 : Int32)) m3 _ h)
theorem c_H_addRule {G : jG} (hG : jFul G) {hb : Nat} (hh : jhok hb) {v1 : Nat} {v2 : Int32} {m : jMem} {r : (Unit × jMem)} (h : f_H_addRule hb v1 v2 m = some r) : jCt G Y_H_addRule [jr G hb, jr G v1, .int v2] m (jrv r) := by
  refine jCt.ov (ls := [(0, jr G hb), (1, jr G v1), (2, .int v2)]) mi_H_addRule (jAvR (jAvR (jAvI jAvN))) (Nat.le_of_ble_eq_true rfl) ?_ ⟨rfl, rfl⟩
  unfold f_H_addRule at h
  refine J.iconst (v := (0 : Int32)) d_H_addRule_0 ki_0 ?_
  refine J.istore_n (lv := [(3, .int (0 : Int32)), (0, jr G hb), (1, jr G v1), (2, .int v2)]) d_H_addRule_1 rfl (by decide) rfl ?_
  refine J.sub (ls' := [(0, jr G hb), (1, jr G v1), (2, .int v2), (3, .int (0 : Int32))]) [1, 2, 3, 0] rfl ?_
  refine jlp_H_addRule_2 hG hh v1 v2 _ ?_ _ (0 : Int32) m _ h
  intro m4 r h
  refine J.aload_n 0 d_H_addRule_29 rfl rfl ?_
  refine J.dup d_H_addRule_30 (jr_cat _ _) ?_
  refine J.getI hG d_H_addRule_31 fl_H_40 (jhok_I hh 1 rfl) ?_
  refine J.iload_n 1 d_H_addRule_34 rfl rfl ?_
  refine J.ior d_H_addRule_35 ?_
  obtain ⟨m5, hm5, h⟩ := jpu_some h
  refine J.putI hG d_H_addRule_36 fl_H_40 fp_1_1 (jhok_I hh 1 rfl) hm5 ?_
  refine J.aload_n 0 d_H_addRule_39 rfl rfl ?_
  refine J.dup d_H_addRule_40 (jr_cat _ _) ?_
  refine J.nop (pc' := 41) rfl ?_
  refine J.getI hG d_H_addRule_41 fl_H_44 (jhok_I hh 2 rfl) ?_
  refine J.iconst (v := (1 : Int32)) d_H_addRule_44 ki_1 ?_
  refine J.iadd d_H_addRule_45 ?_
  obtain ⟨m6, hm6, h⟩ := jpu_some h
  refine J.putI hG d_H_addRule_46 fl_H_44 fp_1_2 (jhok_I hh 2 rfl) hm6 ?_
  cases h
  exact J.vret d_H_addRule_49 rfl rfl

def f_R_takeRule (m : jMem) : Option (Unit × jMem) :=
  jbd (f_R_stepTo ((m 21 1) + (1 : Int32)) m) fun u1 m2 =>
  jgd (jtk (m2 21 2).toNatClampNeg) (
    jlt (jtkP (m2 21 2).toNatClampNeg) fun x3 =>
    if x3 = (1 : Int32) then
      jbd (f_R_stepTo ((m2 21 1) + (1 : Int32)) m2) fun u4 m5 =>
      jgd (jhok (m5 21 6).toNatClampNeg) (
        jbd (f_R_takeWriters (m5 (m5 21 6).toNatClampNeg 1) m5) fun x7 m8 =>
        if (m8 21 4) = 0 then
          jgd (jok (m8 21 2).toNatClampNeg ∧ jok 1004) (if (m8 21 2).toNatClampNeg = 1004 then
            if x7 = 0 then
              jgd (jhok (m8 21 6).toNatClampNeg) (
                if (m8 (m8 21 6).toNatClampNeg 1) = 0 then
                  if x7 = 0 then
                    jgd (jhok (m8 21 6).toNatClampNeg) (
                      jbd (f_H_addRule (m8 21 6).toNatClampNeg (m2 21 2).toNatClampNeg (63 : Int32) m8) fun u25 m26 =>
                      jbd (f_R_stepTo ((m26 21 1) + (1 : Int32)) m26) fun u28 m29 =>
                      some ((), m29))
                  else
                    jgd (jhok (m8 21 6).toNatClampNeg) (
                      jbd (f_H_addRule (m8 21 6).toNatClampNeg (m2 21 2).toNatClampNeg x7 m8) fun u20 m21 =>
                      jbd (f_R_stepTo ((m21 21 1) + (1 : Int32)) m21) fun u23 m24 =>
                      some ((), m24))
                else
                  jbd (f_R_fail (3 : Int32) m8) fun u30 m31 =>
                  some ((), m31))
            else
              if x7 = 0 then
                jgd (jhok (m8 21 6).toNatClampNeg) (
                  jbd (f_H_addRule (m8 21 6).toNatClampNeg (m2 21 2).toNatClampNeg (63 : Int32) m8) fun u14 m15 =>
                  jbd (f_R_stepTo ((m15 21 1) + (1 : Int32)) m15) fun u17 m18 =>
                  some ((), m18))
              else
                jgd (jhok (m8 21 6).toNatClampNeg) (
                  jbd (f_H_addRule (m8 21 6).toNatClampNeg (m2 21 2).toNatClampNeg x7 m8) fun u9 m10 =>
                  jbd (f_R_stepTo ((m10 21 1) + (1 : Int32)) m10) fun u12 m13 =>
                  some ((), m13))
          else
            jbd (f_R_fail (1 : Int32) m8) fun u32 m33 =>
            some ((), m33))
        else
          some ((), m8))
    else
      jbd (f_R_fail (1 : Int32) m2) fun u34 m35 =>
      some ((), m35))
theorem c_R_takeRule {G : jG} (hG : jFul G) {m : jMem} {r : (Unit × jMem)} (h : f_R_takeRule m = some r) : jCt G Y_R_takeRule [jr G 21] m (jrv r) := by
  refine jCt.ov (ls := [(0, jr G 21)]) mi_R_takeRule (jAvR jAvN) (Nat.le_of_ble_eq_true rfl) ?_ ⟨rfl, rfl⟩
  unfold f_R_takeRule at h
  refine J.aload_n 0 d_R_takeRule_0 rfl rfl ?_
  refine J.aload_n 0 d_R_takeRule_1 rfl rfl ?_
  refine J.getI hG d_R_takeRule_2 fl_R_81 ck_21_1 ?_
  refine J.iconst (v := (1 : Int32)) d_R_takeRule_5 ki_1 ?_
  refine J.iadd d_R_takeRule_6 ?_
  obtain ⟨u1, m2, zm2, h⟩ := jbd_some h
  refine J.cVv Y_R_stepTo (As := [.int ((m 21 1) + (1 : Int32))]) (rest := []) hG d_R_takeRule_7 mi_R_stepTo mv_R_stepTo lk_R_57 ⟨rfl, rfl, Nat.le_of_ble_eq_true rfl⟩ cq_21 cc_2 (c_R_stepTo hG zm2) rfl (Nat.le_trans jcN (Nat.le_of_ble_eq_true rfl)) ?_
  refine J.aload_n 0 d_R_takeRule_10 rfl rfl ?_
  refine J.getM hG d_R_takeRule_11 fl_R_15 ck_21_2 ?_
  refine J.nop (pc' := 14) rfl ?_
  refine J.astore_n (lv := [(1, jr G (m2 21 2).toNatClampNeg), (0, jr G 21)]) d_R_takeRule_14 rfl (by decide) rfl ?_
  refine J.aload_n 0 d_R_takeRule_15 rfl rfl ?_
  obtain ⟨g, h⟩ := jgd_some h
  obtain ⟨x3, ex3, h⟩ := jlt_some h
  refine J.gkP d_R_takeRule_16 g (Or.inr ⟨"CitingLetters", jn_8 227 rfl rfl⟩) ex3 ?_
  refine J.iconst (v := (1 : Int32)) d_R_takeRule_19 ki_1 ?_
  refine J.icmp_eq 29 d_R_takeRule_20 rfl (fun c => ?_) (fun c => ?_)
  · rw [if_pos c] at h
    refine J.aload_n 1 d_R_takeRule_29 rfl rfl ?_
    refine J.aload_n 1 d_R_takeRule_30 rfl rfl ?_
    refine J.getI hG d_R_takeRule_31 fl_R_81 ck_21_1 ?_
    refine J.iconst (v := (1 : Int32)) d_R_takeRule_34 ki_1 ?_
    refine J.iadd d_R_takeRule_35 ?_
    obtain ⟨u4, m5, zm5, h⟩ := jbd_some h
    refine J.cVv Y_R_stepTo (As := [.int ((m2 21 1) + (1 : Int32))]) (rest := []) hG d_R_takeRule_36 mi_R_stepTo mv_R_stepTo lk_R_57 ⟨rfl, rfl, Nat.le_of_ble_eq_true rfl⟩ cq_21 cc_2 (c_R_stepTo hG zm5) rfl (Nat.le_trans jcN (Nat.le_of_ble_eq_true rfl)) ?_
    refine J.aload_n 1 d_R_takeRule_39 rfl rfl ?_
    refine J.aload_n 1 d_R_takeRule_40 rfl rfl ?_
    refine J.nop (pc' := 41) rfl ?_
    refine J.getM hG d_R_takeRule_41 fl_R_41 ck_21_6 ?_
    obtain ⟨g6, h⟩ := jgd_some h
    refine J.getI hG d_R_takeRule_44 fl_R_98 (jhok_I g6 1 rfl) ?_
    obtain ⟨x7, m8, zm8, h⟩ := jbd_some h
    refine J.cVi Y_R_takeWriters (As := [.int (m5 (m5 21 6).toNatClampNeg 1)]) (rest := []) hG d_R_takeRule_47 mi_R_takeWriters mv_R_takeWriters lk_R_101 ⟨rfl, rfl, Nat.le_of_ble_eq_true rfl⟩ cq_21 cc_2 (c_R_takeWriters hG zm8) rfl (Nat.le_trans jcN (Nat.le_of_ble_eq_true rfl)) ?_
    refine J.istore_n (lv := [(2, .int x7), (1, jr G (m2 21 2).toNatClampNeg), (0, jr G 21)]) d_R_takeRule_50 rfl (by decide) (jfil rfl (jcaR (jcaR jcaN))) ?_
    refine J.aload_n 2 d_R_takeRule_51 rfl rfl ?_
    refine J.getI hG d_R_takeRule_52 fl_R_54 ck_21_4 ?_
    refine J.if_eq 59 d_R_takeRule_55 rfl (fun c => ?_) (fun c => ?_)
    · rw [if_pos c] at h
      refine J.aload_n 2 d_R_takeRule_59 rfl rfl ?_
      refine J.getM hG d_R_takeRule_60 fl_R_15 ck_21_2 ?_
      refine J.gets (i := 3) (nm := "SEMICOLON") d_R_takeRule_63 (by decide) rfl (jt_3 101 rfl rfl) ?_
      obtain ⟨g, h⟩ := jgd_some h
      refine J.acmp_eq 77 d_R_takeRule_66 rfl g.1 g.2 (fun c => ?_) (fun c => ?_)
      · rw [if_pos c] at h
        refine J.iload_n 0 d_R_takeRule_77 rfl rfl ?_
        refine J.if_ne 99 d_R_takeRule_78 rfl (fun c => ?_) (fun c => ?_)
        · rw [if_neg c] at h
          refine J.aload_n 2 d_R_takeRule_99 rfl rfl ?_
          refine J.getM hG d_R_takeRule_100 fl_R_41 ck_21_6 ?_
          refine J.aload_n 1 d_R_takeRule_103 rfl rfl ?_
          refine J.iload_n 0 d_R_takeRule_104 rfl rfl ?_
          refine J.if_ne 113 d_R_takeRule_105 rfl (fun c => ?_) (fun c => ?_)
          · rw [if_neg c] at h
            refine J.iload_n 0 d_R_takeRule_113 rfl rfl ?_
            obtain ⟨g11, h⟩ := jgd_some h
            obtain ⟨u9, m10, zm10, h⟩ := jbd_some h
            refine J.cVv Y_H_addRule (As := [jr G (m2 21 2).toNatClampNeg, .int x7]) (rest := []) hG d_R_takeRule_114 mi_H_addRule mv_H_addRule lk_R_108 ⟨rfl, rfl, Nat.le_of_ble_eq_true rfl⟩ (jhok_q g11) cc_1 (c_H_addRule hG g11 zm10) rfl (Nat.le_trans jcN (Nat.le_of_ble_eq_true rfl)) ?_
            refine J.aload_n 2 d_R_takeRule_117 rfl rfl ?_
            refine J.aload_n 2 d_R_takeRule_118 rfl rfl ?_
            refine J.getI hG d_R_takeRule_119 fl_R_81 ck_21_1 ?_
            refine J.iconst (v := (1 : Int32)) d_R_takeRule_122 ki_1 ?_
            refine J.iadd d_R_takeRule_123 ?_
            obtain ⟨u12, m13, zm13, h⟩ := jbd_some h
            refine J.cVv Y_R_stepTo (As := [.int ((m10 21 1) + (1 : Int32))]) (rest := []) hG d_R_takeRule_124 mi_R_stepTo mv_R_stepTo lk_R_57 ⟨rfl, rfl, Nat.le_of_ble_eq_true rfl⟩ cq_21 cc_2 (c_R_stepTo hG zm13) rfl (Nat.le_trans jcN (Nat.le_of_ble_eq_true rfl)) ?_
            refine J.nop (pc' := 127) rfl ?_
            cases h
            exact J.vret d_R_takeRule_127 rfl rfl
          · rw [if_pos c] at h
            refine J.bipush (v := (63 : Int32)) d_R_takeRule_108 kb_63 ?_
            refine J.goto 114 d_R_takeRule_110 rfl ?_
            obtain ⟨g16, h⟩ := jgd_some h
            obtain ⟨u14, m15, zm15, h⟩ := jbd_some h
            refine J.cVv Y_H_addRule (As := [jr G (m2 21 2).toNatClampNeg, .int (63 : Int32)]) (rest := []) hG d_R_takeRule_114 mi_H_addRule mv_H_addRule lk_R_108 ⟨rfl, rfl, Nat.le_of_ble_eq_true rfl⟩ (jhok_q g16) cc_1 (c_H_addRule hG g16 zm15) rfl (Nat.le_trans jcN (Nat.le_of_ble_eq_true rfl)) ?_
            refine J.aload_n 2 d_R_takeRule_117 rfl rfl ?_
            refine J.aload_n 2 d_R_takeRule_118 rfl rfl ?_
            refine J.getI hG d_R_takeRule_119 fl_R_81 ck_21_1 ?_
            refine J.iconst (v := (1 : Int32)) d_R_takeRule_122 ki_1 ?_
            refine J.iadd d_R_takeRule_123 ?_
            obtain ⟨u17, m18, zm18, h⟩ := jbd_some h
            refine J.cVv Y_R_stepTo (As := [.int ((m15 21 1) + (1 : Int32))]) (rest := []) hG d_R_takeRule_124 mi_R_stepTo mv_R_stepTo lk_R_57 ⟨rfl, rfl, Nat.le_of_ble_eq_true rfl⟩ cq_21 cc_2 (c_R_stepTo hG zm18) rfl (Nat.le_trans jcN (Nat.le_of_ble_eq_true rfl)) ?_
            cases h
            exact J.vret d_R_takeRule_127 rfl rfl
        · rw [if_pos c] at h
          refine J.aload_n 2 d_R_takeRule_81 rfl rfl ?_
          refine J.getM hG d_R_takeRule_82 fl_R_41 ck_21_6 ?_
          obtain ⟨g19, h⟩ := jgd_some h
          refine J.getI hG d_R_takeRule_85 fl_R_98 (jhok_I g19 1 rfl) ?_
          refine J.if_eq 99 d_R_takeRule_88 rfl (fun c => ?_) (fun c => ?_)
          · rw [if_pos c] at h
            refine J.aload_n 2 d_R_takeRule_99 rfl rfl ?_
            refine J.getM hG d_R_takeRule_100 fl_R_41 ck_21_6 ?_
            refine J.aload_n 1 d_R_takeRule_103 rfl rfl ?_
            refine J.iload_n 0 d_R_takeRule_104 rfl rfl ?_
            refine J.if_ne 113 d_R_takeRule_105 rfl (fun c => ?_) (fun c => ?_)
            · rw [if_neg c] at h
              refine J.iload_n 0 d_R_takeRule_113 rfl rfl ?_
              obtain ⟨g22, h⟩ := jgd_some h
              obtain ⟨u20, m21, zm21, h⟩ := jbd_some h
              refine J.cVv Y_H_addRule (As := [jr G (m2 21 2).toNatClampNeg, .int x7]) (rest := []) hG d_R_takeRule_114 mi_H_addRule mv_H_addRule lk_R_108 ⟨rfl, rfl, Nat.le_of_ble_eq_true rfl⟩ (jhok_q g22) cc_1 (c_H_addRule hG g22 zm21) rfl (Nat.le_trans jcN (Nat.le_of_ble_eq_true rfl)) ?_
              refine J.aload_n 2 d_R_takeRule_117 rfl rfl ?_
              refine J.aload_n 2 d_R_takeRule_118 rfl rfl ?_
              refine J.getI hG d_R_takeRule_119 fl_R_81 ck_21_1 ?_
              refine J.iconst (v := (1 : Int32)) d_R_takeRule_122 ki_1 ?_
              refine J.iadd d_R_takeRule_123 ?_
              obtain ⟨u23, m24, zm24, h⟩ := jbd_some h
              refine J.cVv Y_R_stepTo (As := [.int ((m21 21 1) + (1 : Int32))]) (rest := []) hG d_R_takeRule_124 mi_R_stepTo mv_R_stepTo lk_R_57 ⟨rfl, rfl, Nat.le_of_ble_eq_true rfl⟩ cq_21 cc_2 (c_R_stepTo hG zm24) rfl (Nat.le_trans jcN (Nat.le_of_ble_eq_true rfl)) ?_
              refine J.nop (pc' := 127) rfl ?_
              cases h
              exact J.vret d_R_takeRule_127 rfl rfl
            · rw [if_pos c] at h
              refine J.bipush (v := (63 : Int32)) d_R_takeRule_108 kb_63 ?_
              refine J.goto 114 d_R_takeRule_110 rfl ?_
              obtain ⟨g27, h⟩ := jgd_some h
              obtain ⟨u25, m26, zm26, h⟩ := jbd_some h
              refine J.cVv Y_H_addRule (As := [jr G (m2 21 2).toNatClampNeg, .int (63 : Int32)]) (rest := []) hG d_R_takeRule_114 mi_H_addRule mv_H_addRule lk_R_108 ⟨rfl, rfl, Nat.le_of_ble_eq_true rfl⟩ (jhok_q g27) cc_1 (c_H_addRule hG g27 zm26) rfl (Nat.le_trans jcN (Nat.le_of_ble_eq_true rfl)) ?_
              refine J.aload_n 2 d_R_takeRule_117 rfl rfl ?_
              refine J.aload_n 2 d_R_takeRule_118 rfl rfl ?_
              refine J.getI hG d_R_takeRule_119 fl_R_81 ck_21_1 ?_
              refine J.iconst (v := (1 : Int32)) d_R_takeRule_122 ki_1 ?_
              refine J.iadd d_R_takeRule_123 ?_
              obtain ⟨u28, m29, zm29, h⟩ := jbd_some h
              refine J.cVv Y_R_stepTo (As := [.int ((m26 21 1) + (1 : Int32))]) (rest := []) hG d_R_takeRule_124 mi_R_stepTo mv_R_stepTo lk_R_57 ⟨rfl, rfl, Nat.le_of_ble_eq_true rfl⟩ cq_21 cc_2 (c_R_stepTo hG zm29) rfl (Nat.le_trans jcN (Nat.le_of_ble_eq_true rfl)) ?_
              cases h
              exact J.vret d_R_takeRule_127 rfl rfl
          · rw [if_neg c] at h
            refine J.aload_n 2 d_R_takeRule_91 rfl rfl ?_
            refine J.iconst (v := (3 : Int32)) d_R_takeRule_92 ki_3 ?_
            refine J.nop (pc' := 93) rfl ?_
            obtain ⟨u30, m31, zm31, h⟩ := jbd_some h
            refine J.cVv Y_R_fail (As := [.int (3 : Int32)]) (rest := []) hG d_R_takeRule_93 mi_R_fail mv_R_fail lk_R_78 ⟨rfl, rfl, Nat.le_of_ble_eq_true rfl⟩ cq_21 cc_2 (c_R_fail hG zm31) rfl (Nat.le_trans jcN (Nat.le_of_ble_eq_true rfl)) ?_
            refine J.goto 127 d_R_takeRule_96 rfl ?_
            cases h
            exact J.vret d_R_takeRule_127 rfl rfl
      · rw [if_neg c] at h
        refine J.aload_n 2 d_R_takeRule_69 rfl rfl ?_
        refine J.iconst (v := (1 : Int32)) d_R_takeRule_70 ki_1 ?_
        obtain ⟨u32, m33, zm33, h⟩ := jbd_some h
        refine J.cVv Y_R_fail (As := [.int (1 : Int32)]) (rest := []) hG d_R_takeRule_71 mi_R_fail mv_R_fail lk_R_78 ⟨rfl, rfl, Nat.le_of_ble_eq_true rfl⟩ cq_21 cc_2 (c_R_fail hG zm33) rfl (Nat.le_trans jcN (Nat.le_of_ble_eq_true rfl)) ?_
        refine J.goto 127 d_R_takeRule_74 rfl ?_
        cases h
        exact J.vret d_R_takeRule_127 rfl rfl
    · rw [if_neg c] at h
      cases h
      exact J.vret d_R_takeRule_58 rfl rfl
  · rw [if_neg c] at h
    refine J.aload_n 1 d_R_takeRule_23 rfl rfl ?_
    refine J.iconst (v := (1 : Int32)) d_R_takeRule_24 ki_1 ?_
    obtain ⟨u34, m35, zm35, h⟩ := jbd_some h
    refine J.cVv Y_R_fail (As := [.int (1 : Int32)]) (rest := []) hG d_R_takeRule_25 mi_R_fail mv_R_fail lk_R_78 ⟨rfl, rfl, Nat.le_of_ble_eq_true rfl⟩ cq_21 cc_2 (c_R_fail hG zm35) rfl (Nat.le_trans jcN (Nat.le_of_ble_eq_true rfl)) ?_
    refine J.nop (pc' := 28) rfl ?_
    cases h
    exact J.vret d_R_takeRule_28 rfl rfl

def lp_R_takes_37 (k120 : jMem → Option (Int32 × jMem)) : Nat → Int32 → jMem → Option (Int32 × jMem)
  | 0, _, _ => none
  | n + 1, v3, m =>
    if (m 24 5) ≤ v3 then
      k120 m
    else
      if (m 21 4) = 0 then
        jgd (jok (m 21 2).toNatClampNeg ∧ jok 1001) (if (m 21 2).toNatClampNeg = 1001 then
          k120 m
        else
          jgd (jok (m 21 2).toNatClampNeg ∧ jok 1007) (if (m 21 2).toNatClampNeg = 1007 then
            jbd (f_R_takeRule m) fun u18 m19 =>
            lp_R_takes_37 k120 n (v3 + (1 : Int32)) m19
          else
            jgd (jok (m 21 2).toNatClampNeg ∧ jok 1008) (if (m 21 2).toNatClampNeg = 1008 then
              jbd (f_R_takeHabit m) fun u12 m13 =>
              lp_R_takes_37 k120 n (v3 + (1 : Int32)) m13
            else
              jgd (jok (m 21 2).toNatClampNeg ∧ jok 1009) (if (m 21 2).toNatClampNeg = 1009 then
                jbd (f_R_takeHabit m) fun u16 m17 =>
                lp_R_takes_37 k120 n (v3 + (1 : Int32)) m17
              else
                jbd (f_R_fail (1 : Int32) m) fun u14 m15 =>
                lp_R_takes_37 k120 n (v3 + (1 : Int32)) m15))))
      else
        k120 m
def f_R_takes (v1 : Int32) (v2 : Nat) (m : jMem) : Option (Int32 × jMem) :=
  jbd (f_S_cut v1 m) fun u1 m2 =>
  jgd (v2 < 2 ^ 31) (
    jpu m2 21 6 (Int32.ofNat v2) fun m3 =>
    jgd (jhok (m3 21 6).toNatClampNeg) (
      jbd (f_H_clear (m3 21 6).toNatClampNeg m3) fun u5 m6 =>
      jpu m6 21 4 (0 : Int32) fun m8 =>
      jpu m8 21 5 (-1 : Int32) fun m9 =>
      jbd (f_R_stepTo (0 : Int32) m9) fun u10 m11 =>
      lp_R_takes_37 (fun m20 =>
        if (m20 21 4) = 0 then
          some ((1 : Int32), m20)
        else
          some ((0 : Int32), m20)) 5000 (0 : Int32) m11))
theorem jlp_R_takes_37 {G : jG} (hG : jFul G) (k120 : jMem → Option (Int32 × jMem))
    (hk120 : ∀ (m : jMem) (r : (Int32 × jMem)), k120 m = some r → J G Y_R_takes 120 [(0, jr G 21)] [] m (jri r)) : ∀ (n : Nat) (v3 : Int32) (m : jMem) (r : (Int32 × jMem)), lp_R_takes_37 k120 n v3 m = some r → J G Y_R_takes 37 [(0, jr G 21), (3, .int v3)] [] m (jri r) := by
  intro n
  induction n with
  | zero => intro v3 m r h; unfold lp_R_takes_37 at h; cases h
  | succ n ih =>
    intro v3 m r h
    unfold lp_R_takes_37 at h
    refine J.iload_n 1 d_R_takes_37 rfl rfl ?_
    refine J.aload_n 0 d_R_takes_38 rfl rfl ?_
    refine J.getF (n := 24) hG d_R_takes_39 fl_R_37 ck_21_0 rfl ?_
    refine J.getI hG d_R_takes_42 fl_R_60 ck_24_5 ?_
    refine J.icmp_ge 120 d_R_takes_45 rfl (fun c => ?_) (fun c => ?_)
    · rw [if_pos c] at h
      exact J.sub (ls' := [(0, jr G 21)]) [0] rfl (hk120  m _ h)
    · rw [if_neg c] at h
      refine J.aload_n 0 d_R_takes_48 rfl rfl ?_
      refine J.getI hG d_R_takes_49 fl_R_54 ck_21_4 ?_
      refine J.if_ne 120 d_R_takes_52 rfl (fun c => ?_) (fun c => ?_)
      · rw [if_neg c] at h
        exact J.sub (ls' := [(0, jr G 21)]) [0] rfl (hk120  m _ h)
      · rw [if_pos c] at h
        refine J.nop (pc' := 55) rfl ?_
        refine J.aload_n 0 d_R_takes_55 rfl rfl ?_
        refine J.getM hG d_R_takes_56 fl_R_15 ck_21_2 ?_
        refine J.gets (i := 0) (nm := "END") d_R_takes_59 (by decide) rfl (jt_1 100 rfl rfl) ?_
        obtain ⟨g, h⟩ := jgd_some h
        refine J.acmp_eq 120 d_R_takes_62 rfl g.1 g.2 (fun c => ?_) (fun c => ?_)
        · rw [if_pos c] at h
          exact J.sub (ls' := [(0, jr G 21)]) [0] rfl (hk120  m _ h)
        · rw [if_neg c] at h
          refine J.aload_n 0 d_R_takes_65 rfl rfl ?_
          refine J.getM hG d_R_takes_66 fl_R_15 ck_21_2 ?_
          refine J.gets (i := 6) (nm := "READ") d_R_takes_69 (by decide) rfl (jt_3 80 rfl rfl) ?_
          obtain ⟨g, h⟩ := jgd_some h
          refine J.acmp_ne 82 d_R_takes_72 rfl g.1 g.2 (fun c => ?_) (fun c => ?_)
          · rw [if_neg c] at h
            refine J.aload_n 0 d_R_takes_82 rfl rfl ?_
            refine J.getM hG d_R_takes_83 fl_R_15 ck_21_2 ?_
            refine J.gets (i := 7) (nm := "ANSWER") d_R_takes_86 (by decide) rfl (jt_3 108 rfl rfl) ?_
            obtain ⟨g, h⟩ := jgd_some h
            refine J.acmp_eq 102 d_R_takes_89 rfl g.1 g.2 (fun c => ?_) (fun c => ?_)
            · rw [if_pos c] at h
              refine J.aload_n 0 d_R_takes_102 rfl rfl ?_
              obtain ⟨u12, m13, zm13, h⟩ := jbd_some h
              refine J.cVv Y_R_takeHabit (As := []) (rest := []) hG d_R_takes_103 mi_R_takeHabit mv_R_takeHabit lk_R_75 ⟨rfl, rfl, Nat.le_of_ble_eq_true rfl⟩ cq_21 cc_2 (c_R_takeHabit hG zm13) rfl (Nat.le_trans jcN (Nat.le_of_ble_eq_true rfl)) ?_
              refine J.goto 114 d_R_takes_106 rfl ?_
              refine J.iinc 1 (v := (1 : Int32)) (lv := [(3, .int (v3 + (1 : Int32))), (0, jr G 21)]) d_R_takes_114 rfl ki_1 (by decide) rfl ?_
              refine J.goto 37 d_R_takes_117 rfl ?_
              exact J.sub (ls' := [(0, jr G 21), (3, .int (v3 + (1 : Int32)))]) [1, 0] rfl (ih (v3 + (1 : Int32)) m13 _ h)
            · rw [if_neg c] at h
              refine J.aload_n 0 d_R_takes_92 rfl rfl ?_
              refine J.getM hG d_R_takes_93 fl_R_15 ck_21_2 ?_
              refine J.gets (i := 8) (nm := "ROUND") d_R_takes_96 (by decide) rfl (jt_3 110 rfl rfl) ?_
              obtain ⟨g, h⟩ := jgd_some h
              refine J.acmp_ne 109 d_R_takes_99 rfl g.1 g.2 (fun c => ?_) (fun c => ?_)
              · rw [if_neg c] at h
                refine J.aload_n 0 d_R_takes_109 rfl rfl ?_
                refine J.iconst (v := (1 : Int32)) d_R_takes_110 ki_1 ?_
                obtain ⟨u14, m15, zm15, h⟩ := jbd_some h
                refine J.cVv Y_R_fail (As := [.int (1 : Int32)]) (rest := []) hG d_R_takes_111 mi_R_fail mv_R_fail lk_R_78 ⟨rfl, rfl, Nat.le_of_ble_eq_true rfl⟩ cq_21 cc_2 (c_R_fail hG zm15) rfl (Nat.le_trans jcN (Nat.le_of_ble_eq_true rfl)) ?_
                refine J.iinc 1 (v := (1 : Int32)) (lv := [(3, .int (v3 + (1 : Int32))), (0, jr G 21)]) d_R_takes_114 rfl ki_1 (by decide) rfl ?_
                refine J.goto 37 d_R_takes_117 rfl ?_
                exact J.sub (ls' := [(0, jr G 21), (3, .int (v3 + (1 : Int32)))]) [1, 0] rfl (ih (v3 + (1 : Int32)) m15 _ h)
              · rw [if_pos c] at h
                refine J.nop (pc' := 102) rfl ?_
                refine J.aload_n 0 d_R_takes_102 rfl rfl ?_
                obtain ⟨u16, m17, zm17, h⟩ := jbd_some h
                refine J.cVv Y_R_takeHabit (As := []) (rest := []) hG d_R_takes_103 mi_R_takeHabit mv_R_takeHabit lk_R_75 ⟨rfl, rfl, Nat.le_of_ble_eq_true rfl⟩ cq_21 cc_2 (c_R_takeHabit hG zm17) rfl (Nat.le_trans jcN (Nat.le_of_ble_eq_true rfl)) ?_
                refine J.goto 114 d_R_takes_106 rfl ?_
                refine J.iinc 1 (v := (1 : Int32)) (lv := [(3, .int (v3 + (1 : Int32))), (0, jr G 21)]) d_R_takes_114 rfl ki_1 (by decide) rfl ?_
                refine J.goto 37 d_R_takes_117 rfl ?_
                exact J.sub (ls' := [(0, jr G 21), (3, .int (v3 + (1 : Int32)))]) [1, 0] rfl (ih (v3 + (1 : Int32)) m17 _ h)
          · rw [if_pos c] at h
            refine J.nop (pc' := 75) rfl ?_
            refine J.aload_n 0 d_R_takes_75 rfl rfl ?_
            obtain ⟨u18, m19, zm19, h⟩ := jbd_some h
            refine J.cVv Y_R_takeRule (As := []) (rest := []) hG d_R_takes_76 mi_R_takeRule mv_R_takeRule lk_R_66 ⟨rfl, rfl, Nat.le_of_ble_eq_true rfl⟩ cq_21 cc_2 (c_R_takeRule hG zm19) rfl (Nat.le_trans jcN (Nat.le_of_ble_eq_true rfl)) ?_
            refine J.goto 114 d_R_takes_79 rfl ?_
            refine J.iinc 1 (v := (1 : Int32)) (lv := [(3, .int (v3 + (1 : Int32))), (0, jr G 21)]) d_R_takes_114 rfl ki_1 (by decide) rfl ?_
            refine J.goto 37 d_R_takes_117 rfl ?_
            exact J.sub (ls' := [(0, jr G 21), (3, .int (v3 + (1 : Int32)))]) [1, 0] rfl (ih (v3 + (1 : Int32)) m19 _ h)
theorem c_R_takes {G : jG} (hG : jFul G) {v1 : Int32} {v2 : Nat} {m : jMem} {r : (Int32 × jMem)} (h : f_R_takes v1 v2 m = some r) : jCt G Y_R_takes [jr G 21, .int v1, jr G v2] m (jri r) := by
  refine jCt.ov (ls := [(0, jr G 21), (1, .int v1), (2, jr G v2)]) mi_R_takes (jAvR (jAvI (jAvR jAvN))) (Nat.le_of_ble_eq_true rfl) ?_ ⟨rfl, rfl⟩
  unfold f_R_takes at h
  refine J.aload_n 0 d_R_takes_0 rfl rfl ?_
  refine J.getF (n := 24) hG d_R_takes_1 fl_R_37 ck_21_0 rfl ?_
  refine J.iload_n 1 d_R_takes_4 rfl rfl ?_
  obtain ⟨u1, m2, zm2, h⟩ := jbd_some h
  refine J.cVv Y_S_cut (As := [.int v1]) (rest := []) hG d_R_takes_5 mi_S_cut mv_S_cut lk_R_45 ⟨rfl, rfl, Nat.le_of_ble_eq_true rfl⟩ cq_24 cc_3 (c_S_cut hG zm2) rfl (Nat.le_trans jcN (Nat.le_of_ble_eq_true rfl)) ?_
  refine J.aload_n 0 d_R_takes_8 rfl rfl ?_
  refine J.aload_n 2 d_R_takes_9 rfl rfl ?_
  obtain ⟨g4, h⟩ := jgd_some h
  obtain ⟨m3, hm3, h⟩ := jpu_some h
  refine J.putR hG d_R_takes_10 fl_R_41 fp_2_6 ck_21_6 g4 hm3 ?_
  refine J.aload_n 0 d_R_takes_13 rfl rfl ?_
  refine J.nop (pc' := 14) rfl ?_
  refine J.getM hG d_R_takes_14 fl_R_41 ck_21_6 ?_
  obtain ⟨g7, h⟩ := jgd_some h
  obtain ⟨u5, m6, zm6, h⟩ := jbd_some h
  refine J.cVv Y_H_clear (As := []) (rest := []) hG d_R_takes_17 mi_H_clear mv_H_clear lk_R_49 ⟨rfl, rfl, Nat.le_of_ble_eq_true rfl⟩ (jhok_q g7) cc_1 (c_H_clear hG g7 zm6) rfl (Nat.le_trans jcN (Nat.le_of_ble_eq_true rfl)) ?_
  refine J.aload_n 0 d_R_takes_20 rfl rfl ?_
  refine J.iconst (v := (0 : Int32)) d_R_takes_21 ki_0 ?_
  obtain ⟨m8, hm8, h⟩ := jpu_some h
  refine J.putI hG d_R_takes_22 fl_R_54 fp_2_4 ck_21_4 hm8 ?_
  refine J.aload_n 0 d_R_takes_25 rfl rfl ?_
  refine J.iconst (v := (-1 : Int32)) d_R_takes_26 ki_m1 ?_
  obtain ⟨m9, hm9, h⟩ := jpu_some h
  refine J.putI hG d_R_takes_27 fl_R_20 fp_2_5 ck_21_5 hm9 ?_
  refine J.nop (pc' := 30) rfl ?_
  refine J.aload_n 0 d_R_takes_30 rfl rfl ?_
  refine J.iconst (v := (0 : Int32)) d_R_takes_31 ki_0 ?_
  obtain ⟨u10, m11, zm11, h⟩ := jbd_some h
  refine J.cVv Y_R_stepTo (As := [.int (0 : Int32)]) (rest := []) hG d_R_takes_32 mi_R_stepTo mv_R_stepTo lk_R_57 ⟨rfl, rfl, Nat.le_of_ble_eq_true rfl⟩ cq_21 cc_2 (c_R_stepTo hG zm11) rfl (Nat.le_trans jcN (Nat.le_of_ble_eq_true rfl)) ?_
  refine J.iconst (v := (0 : Int32)) d_R_takes_35 ki_0 ?_
  refine J.istore_n (lv := [(3, .int (0 : Int32)), (0, jr G 21), (1, .int v1), (2, jr G v2)]) d_R_takes_36 rfl (by decide) (jfil rfl (jcaR (jcaI (jcaR jcaN)))) ?_
  refine J.sub (ls' := [(0, jr G 21), (3, .int (0 : Int32))]) [1, 0] rfl ?_
  refine jlp_R_takes_37 hG _ ?_ _ (0 : Int32) m11 _ h
  intro m20 r h
  refine J.aload_n 0 d_R_takes_120 rfl rfl ?_
  refine J.getI hG d_R_takes_121 fl_R_54 ck_21_4 ?_
  refine J.if_ne 131 d_R_takes_124 rfl (fun c => ?_) (fun c => ?_)
  · rw [if_neg c] at h
    refine J.iconst (v := (0 : Int32)) d_R_takes_131 ki_0 ?_
    cases h
    exact J.iret d_R_takes_132 rfl rfl rfl
  · rw [if_pos c] at h
    refine J.iconst (v := (1 : Int32)) d_R_takes_127 ki_1 ?_
    refine J.goto 132 d_R_takes_128 rfl ?_
    cases h
    exact J.iret d_R_takes_132 rfl rfl rfl

def f_H_ruleOf (hb : Nat) (v1 : Int32) (m : jMem) : Option (Nat × jMem) :=
  jbd (f_C_isIn (m hb 1) v1 m) fun x1 m2 =>
  if x1 = 0 then
    some (1012, m2)
  else
    jl4 m2 (hb + 1) v1 fun q3 =>
    some (q3, m2)
theorem c_H_ruleOf {G : jG} (hG : jFul G) {hb : Nat} (hh : jhok hb) {v1 : Int32} {m : jMem} {r : (Nat × jMem)} (h : f_H_ruleOf hb v1 m = some r) : jCt G Y_H_ruleOf [jr G hb, .int v1] m (jrr G r) := by
  refine jCt.ov (ls := [(0, jr G hb), (1, .int v1)]) mi_H_ruleOf (jAvR (jAvI jAvN)) (Nat.le_of_ble_eq_true rfl) ?_ ⟨rfl, rfl⟩
  unfold f_H_ruleOf at h
  refine J.aload_n 0 d_H_ruleOf_0 rfl rfl ?_
  refine J.getI hG d_H_ruleOf_1 fl_H_40 (jhok_I hh 1 rfl) ?_
  refine J.iload_n 1 d_H_ruleOf_4 rfl rfl ?_
  obtain ⟨x1, m2, zm2, h⟩ := jbd_some h
  refine J.cSi Y_C_isIn (As := [.int (m hb 1), .int v1]) (rest := []) d_H_ruleOf_5 mi_C_isIn ms_C_isIn lk_H_56 ⟨rfl, rfl, Nat.le_of_ble_eq_true rfl⟩ (c_C_isIn hG zm2) rfl (Nat.le_trans jcN (Nat.le_of_ble_eq_true rfl)) ?_
  refine J.if_eq 20 d_H_ruleOf_8 rfl (fun c => ?_) (fun c => ?_)
  · rw [if_pos c] at h
    refine J.gets (i := 11) (nm := "COMES") d_H_ruleOf_20 (by decide) rfl (jt_4 75 rfl rfl) ?_
    cases h
    exact J.aret d_H_ruleOf_23 rfl rfl
  · rw [if_neg c] at h
    refine J.aload_n 0 d_H_ruleOf_11 rfl rfl ?_
    refine J.getF (n := hb + 1) hG d_H_ruleOf_12 fl_H_11 (jhok_F hh 0 rfl) (jhok_fx hh 0 1 rfl rfl) ?_
    refine J.iload_n 1 d_H_ruleOf_15 rfl rfl ?_
    refine J.nop (pc' := 16) rfl ?_
    obtain ⟨q3, eq3, g, h⟩ := jl4_some h
    refine J.a4 hG d_H_ruleOf_16 g eq3 ?_
    refine J.goto 23 d_H_ruleOf_17 rfl ?_
    cases h
    exact J.aret d_H_ruleOf_23 rfl rfl

def f_H_joined (v0 : Nat) (v1 : Int32) (v2 : Int32) (m : jMem) : Option (Int32 × jMem) :=
  jgd (jtk v0) (jlt (jtkO v0) fun x1 =>
    jLsw x1 fun x2 =>
    if x2 = (1 : Int32) then
      if v1 = 0 then
        if v2 = 0 then
          jbd (f_C_truth (0 : Int32) m) fun x35 m36 =>
          some (x35, m36)
        else
          jbd (f_C_truth (1 : Int32) m) fun x37 m38 =>
          some (x37, m38)
      else
        jbd (f_C_truth (1 : Int32) m) fun x33 m34 =>
        some (x33, m34)
    else
      if x2 = (2 : Int32) then
        if v1 = 0 then
          jbd (f_C_truth (0 : Int32) m) fun x27 m28 =>
          some (x27, m28)
        else
          if v2 = 0 then
            jbd (f_C_truth (0 : Int32) m) fun x29 m30 =>
            some (x29, m30)
          else
            jbd (f_C_truth (1 : Int32) m) fun x31 m32 =>
            some (x31, m32)
      else
        if x2 = (3 : Int32) then
          if v2 ≤ v1 then
            jbd (f_C_truth (0 : Int32) m) fun x23 m24 =>
            some (x23, m24)
          else
            jbd (f_C_truth (1 : Int32) m) fun x25 m26 =>
            some (x25, m26)
        else
          if x2 = (4 : Int32) then
            if v2 < v1 then
              jbd (f_C_truth (0 : Int32) m) fun x19 m20 =>
              some (x19, m20)
            else
              jbd (f_C_truth (1 : Int32) m) fun x21 m22 =>
              some (x21, m22)
          else
            if x2 = (5 : Int32) then
              if v1 = v2 then
                jbd (f_C_truth (1 : Int32) m) fun x17 m18 =>
                some (x17, m18)
              else
                jbd (f_C_truth (0 : Int32) m) fun x15 m16 =>
                some (x15, m16)
            else
              if x2 = (6 : Int32) then
                if v1 = v2 then
                  jbd (f_C_truth (0 : Int32) m) fun x11 m12 =>
                  some (x11, m12)
                else
                  jbd (f_C_truth (1 : Int32) m) fun x13 m14 =>
                  some (x13, m14)
              else
                if x2 = (7 : Int32) then
                  if v1 < v2 then
                    jbd (f_C_truth (0 : Int32) m) fun x7 m8 =>
                    some (x7, m8)
                  else
                    jbd (f_C_truth (1 : Int32) m) fun x9 m10 =>
                    some (x9, m10)
                else
                  if x2 = (8 : Int32) then
                    if v1 ≤ v2 then
                      jbd (f_C_truth (0 : Int32) m) fun x3 m4 =>
                      some (x3, m4)
                    else
                      jbd (f_C_truth (1 : Int32) m) fun x5 m6 =>
                      some (x5, m6)
                  else
                    if x2 = (9 : Int32) then
                      some ((v1 + v2), m)
                    else
                      some ((v1 - v2), m))
theorem c_H_joined {G : jG} (hG : jFul G) {v0 : Nat} {v1 : Int32} {v2 : Int32} {m : jMem} {r : (Int32 × jMem)} (h : f_H_joined v0 v1 v2 m = some r) : jCt G Y_H_joined [jr G v0, .int v1, .int v2] m (jri r) := by
  refine jCt.ov (ls := [(0, jr G v0), (1, .int v1), (2, .int v2)]) mi_H_joined (jAvR (jAvI (jAvI jAvN))) (Nat.le_of_ble_eq_true rfl) ?_ ⟨rfl, rfl⟩
  unfold f_H_joined at h
  refine J.gsw d_H_joined_0 wf_sw ?_
  refine J.aload_n 0 d_H_joined_3 rfl rfl ?_
  obtain ⟨g, h⟩ := jgd_some h
  obtain ⟨x1, ex1, h⟩ := jlt_some h
  refine J.cO Y_JE_ordinal (rest := [jr G 4002]) d_H_joined_4 rfl mi_JE_ordinal wo_ord ⟨rfl, rfl, Nat.le_of_ble_eq_true rfl⟩ g (c_JE_ordinal g ex1) rfl (Nat.le_trans (jcR jcN) (Nat.le_of_ble_eq_true rfl)) ?_
  obtain ⟨x2, ex2, g, h⟩ := jLsw_some h
  refine J.swld d_H_joined_7 g ex2 ?_
  by_cases c1 : x2 = (1 : Int32)
  · rw [if_pos c1] at h
    refine J.tsIn 60 d_H_joined_8 c1 (by decide) (by decide) rfl (by decide) ?_
    refine J.iload_n 1 d_H_joined_60 rfl rfl ?_
    refine J.if_ne 68 d_H_joined_61 rfl (fun c => ?_) (fun c => ?_)
    · rw [if_neg c] at h
      refine J.iconst (v := (1 : Int32)) d_H_joined_68 ki_1 ?_
      refine J.goto 73 d_H_joined_69 rfl ?_
      obtain ⟨x33, m34, zm34, h⟩ := jbd_some h
      refine J.cSi Y_C_truth (As := [.int (1 : Int32)]) (rest := []) d_H_joined_73 mi_C_truth ms_C_truth lk_H_80 ⟨rfl, rfl, Nat.le_of_ble_eq_true rfl⟩ (c_C_truth hG zm34) rfl (Nat.le_trans jcN (Nat.le_of_ble_eq_true rfl)) ?_
      cases h
      exact J.iret d_H_joined_76 rfl (vp_nar_int _) rfl
    · rw [if_pos c] at h
      refine J.iload_n 2 d_H_joined_64 rfl rfl ?_
      refine J.if_eq 72 d_H_joined_65 rfl (fun c => ?_) (fun c => ?_)
      · rw [if_pos c] at h
        refine J.iconst (v := (0 : Int32)) d_H_joined_72 ki_0 ?_
        obtain ⟨x35, m36, zm36, h⟩ := jbd_some h
        refine J.cSi Y_C_truth (As := [.int (0 : Int32)]) (rest := []) d_H_joined_73 mi_C_truth ms_C_truth lk_H_80 ⟨rfl, rfl, Nat.le_of_ble_eq_true rfl⟩ (c_C_truth hG zm36) rfl (Nat.le_trans jcN (Nat.le_of_ble_eq_true rfl)) ?_
        cases h
        exact J.iret d_H_joined_76 rfl (vp_nar_int _) rfl
      · rw [if_neg c] at h
        refine J.iconst (v := (1 : Int32)) d_H_joined_68 ki_1 ?_
        refine J.goto 73 d_H_joined_69 rfl ?_
        obtain ⟨x37, m38, zm38, h⟩ := jbd_some h
        refine J.cSi Y_C_truth (As := [.int (1 : Int32)]) (rest := []) d_H_joined_73 mi_C_truth ms_C_truth lk_H_80 ⟨rfl, rfl, Nat.le_of_ble_eq_true rfl⟩ (c_C_truth hG zm38) rfl (Nat.le_trans jcN (Nat.le_of_ble_eq_true rfl)) ?_
        cases h
        exact J.iret d_H_joined_76 rfl (vp_nar_int _) rfl
  · rw [if_neg c1] at h
    by_cases c2 : x2 = (2 : Int32)
    · rw [if_pos c2] at h
      refine J.tsIn 77 d_H_joined_8 c2 (by decide) (by decide) rfl (by decide) ?_
      refine J.iload_n 1 d_H_joined_77 rfl rfl ?_
      refine J.if_eq 89 d_H_joined_78 rfl (fun c => ?_) (fun c => ?_)
      · rw [if_pos c] at h
        refine J.iconst (v := (0 : Int32)) d_H_joined_89 ki_0 ?_
        obtain ⟨x27, m28, zm28, h⟩ := jbd_some h
        refine J.cSi Y_C_truth (As := [.int (0 : Int32)]) (rest := []) d_H_joined_90 mi_C_truth ms_C_truth lk_H_80 ⟨rfl, rfl, Nat.le_of_ble_eq_true rfl⟩ (c_C_truth hG zm28) rfl (Nat.le_trans jcN (Nat.le_of_ble_eq_true rfl)) ?_
        cases h
        exact J.iret d_H_joined_93 rfl (vp_nar_int _) rfl
      · rw [if_neg c] at h
        refine J.iload_n 2 d_H_joined_81 rfl rfl ?_
        refine J.if_eq 89 d_H_joined_82 rfl (fun c => ?_) (fun c => ?_)
        · rw [if_pos c] at h
          refine J.iconst (v := (0 : Int32)) d_H_joined_89 ki_0 ?_
          obtain ⟨x29, m30, zm30, h⟩ := jbd_some h
          refine J.cSi Y_C_truth (As := [.int (0 : Int32)]) (rest := []) d_H_joined_90 mi_C_truth ms_C_truth lk_H_80 ⟨rfl, rfl, Nat.le_of_ble_eq_true rfl⟩ (c_C_truth hG zm30) rfl (Nat.le_trans jcN (Nat.le_of_ble_eq_true rfl)) ?_
          cases h
          exact J.iret d_H_joined_93 rfl (vp_nar_int _) rfl
        · rw [if_neg c] at h
          refine J.iconst (v := (1 : Int32)) d_H_joined_85 ki_1 ?_
          refine J.goto 90 d_H_joined_86 rfl ?_
          obtain ⟨x31, m32, zm32, h⟩ := jbd_some h
          refine J.cSi Y_C_truth (As := [.int (1 : Int32)]) (rest := []) d_H_joined_90 mi_C_truth ms_C_truth lk_H_80 ⟨rfl, rfl, Nat.le_of_ble_eq_true rfl⟩ (c_C_truth hG zm32) rfl (Nat.le_trans jcN (Nat.le_of_ble_eq_true rfl)) ?_
          cases h
          exact J.iret d_H_joined_93 rfl (vp_nar_int _) rfl
    · rw [if_neg c2] at h
      by_cases c3 : x2 = (3 : Int32)
      · rw [if_pos c3] at h
        refine J.tsIn 94 d_H_joined_8 c3 (by decide) (by decide) rfl (by decide) ?_
        refine J.iload_n 1 d_H_joined_94 rfl rfl ?_
        refine J.iload_n 2 d_H_joined_95 rfl rfl ?_
        refine J.icmp_ge 103 d_H_joined_96 rfl (fun c => ?_) (fun c => ?_)
        · rw [if_pos c] at h
          refine J.iconst (v := (0 : Int32)) d_H_joined_103 ki_0 ?_
          obtain ⟨x23, m24, zm24, h⟩ := jbd_some h
          refine J.cSi Y_C_truth (As := [.int (0 : Int32)]) (rest := []) d_H_joined_104 mi_C_truth ms_C_truth lk_H_80 ⟨rfl, rfl, Nat.le_of_ble_eq_true rfl⟩ (c_C_truth hG zm24) rfl (Nat.le_trans jcN (Nat.le_of_ble_eq_true rfl)) ?_
          cases h
          exact J.iret d_H_joined_107 rfl (vp_nar_int _) rfl
        · rw [if_neg c] at h
          refine J.iconst (v := (1 : Int32)) d_H_joined_99 ki_1 ?_
          refine J.goto 104 d_H_joined_100 rfl ?_
          obtain ⟨x25, m26, zm26, h⟩ := jbd_some h
          refine J.cSi Y_C_truth (As := [.int (1 : Int32)]) (rest := []) d_H_joined_104 mi_C_truth ms_C_truth lk_H_80 ⟨rfl, rfl, Nat.le_of_ble_eq_true rfl⟩ (c_C_truth hG zm26) rfl (Nat.le_trans jcN (Nat.le_of_ble_eq_true rfl)) ?_
          cases h
          exact J.iret d_H_joined_107 rfl (vp_nar_int _) rfl
      · rw [if_neg c3] at h
        by_cases c4 : x2 = (4 : Int32)
        · rw [if_pos c4] at h
          refine J.tsIn 108 d_H_joined_8 c4 (by decide) (by decide) rfl (by decide) ?_
          refine J.iload_n 1 d_H_joined_108 rfl rfl ?_
          refine J.iload_n 2 d_H_joined_109 rfl rfl ?_
          refine J.icmp_gt 117 d_H_joined_110 rfl (fun c => ?_) (fun c => ?_)
          · rw [if_pos c] at h
            refine J.iconst (v := (0 : Int32)) d_H_joined_117 ki_0 ?_
            obtain ⟨x19, m20, zm20, h⟩ := jbd_some h
            refine J.cSi Y_C_truth (As := [.int (0 : Int32)]) (rest := []) d_H_joined_118 mi_C_truth ms_C_truth lk_H_80 ⟨rfl, rfl, Nat.le_of_ble_eq_true rfl⟩ (c_C_truth hG zm20) rfl (Nat.le_trans jcN (Nat.le_of_ble_eq_true rfl)) ?_
            cases h
            exact J.iret d_H_joined_121 rfl (vp_nar_int _) rfl
          · rw [if_neg c] at h
            refine J.iconst (v := (1 : Int32)) d_H_joined_113 ki_1 ?_
            refine J.goto 118 d_H_joined_114 rfl ?_
            obtain ⟨x21, m22, zm22, h⟩ := jbd_some h
            refine J.cSi Y_C_truth (As := [.int (1 : Int32)]) (rest := []) d_H_joined_118 mi_C_truth ms_C_truth lk_H_80 ⟨rfl, rfl, Nat.le_of_ble_eq_true rfl⟩ (c_C_truth hG zm22) rfl (Nat.le_trans jcN (Nat.le_of_ble_eq_true rfl)) ?_
            cases h
            exact J.iret d_H_joined_121 rfl (vp_nar_int _) rfl
        · rw [if_neg c4] at h
          by_cases c5 : x2 = (5 : Int32)
          · rw [if_pos c5] at h
            refine J.tsIn 122 d_H_joined_8 c5 (by decide) (by decide) rfl (by decide) ?_
            refine J.iload_n 1 d_H_joined_122 rfl rfl ?_
            refine J.iload_n 2 d_H_joined_123 rfl rfl ?_
            refine J.icmp_ne 131 d_H_joined_124 rfl (fun c => ?_) (fun c => ?_)
            · rw [if_neg c] at h
              refine J.iconst (v := (0 : Int32)) d_H_joined_131 ki_0 ?_
              obtain ⟨x15, m16, zm16, h⟩ := jbd_some h
              refine J.cSi Y_C_truth (As := [.int (0 : Int32)]) (rest := []) d_H_joined_132 mi_C_truth ms_C_truth lk_H_80 ⟨rfl, rfl, Nat.le_of_ble_eq_true rfl⟩ (c_C_truth hG zm16) rfl (Nat.le_trans jcN (Nat.le_of_ble_eq_true rfl)) ?_
              cases h
              exact J.iret d_H_joined_135 rfl (vp_nar_int _) rfl
            · rw [if_pos c] at h
              refine J.iconst (v := (1 : Int32)) d_H_joined_127 ki_1 ?_
              refine J.goto 132 d_H_joined_128 rfl ?_
              obtain ⟨x17, m18, zm18, h⟩ := jbd_some h
              refine J.cSi Y_C_truth (As := [.int (1 : Int32)]) (rest := []) d_H_joined_132 mi_C_truth ms_C_truth lk_H_80 ⟨rfl, rfl, Nat.le_of_ble_eq_true rfl⟩ (c_C_truth hG zm18) rfl (Nat.le_trans jcN (Nat.le_of_ble_eq_true rfl)) ?_
              cases h
              exact J.iret d_H_joined_135 rfl (vp_nar_int _) rfl
          · rw [if_neg c5] at h
            by_cases c6 : x2 = (6 : Int32)
            · rw [if_pos c6] at h
              refine J.tsIn 136 d_H_joined_8 c6 (by decide) (by decide) rfl (by decide) ?_
              refine J.iload_n 1 d_H_joined_136 rfl rfl ?_
              refine J.iload_n 2 d_H_joined_137 rfl rfl ?_
              refine J.icmp_eq 145 d_H_joined_138 rfl (fun c => ?_) (fun c => ?_)
              · rw [if_pos c] at h
                refine J.iconst (v := (0 : Int32)) d_H_joined_145 ki_0 ?_
                obtain ⟨x11, m12, zm12, h⟩ := jbd_some h
                refine J.cSi Y_C_truth (As := [.int (0 : Int32)]) (rest := []) d_H_joined_146 mi_C_truth ms_C_truth lk_H_80 ⟨rfl, rfl, Nat.le_of_ble_eq_true rfl⟩ (c_C_truth hG zm12) rfl (Nat.le_trans jcN (Nat.le_of_ble_eq_true rfl)) ?_
                cases h
                exact J.iret d_H_joined_149 rfl (vp_nar_int _) rfl
              · rw [if_neg c] at h
                refine J.iconst (v := (1 : Int32)) d_H_joined_141 ki_1 ?_
                refine J.goto 146 d_H_joined_142 rfl ?_
                obtain ⟨x13, m14, zm14, h⟩ := jbd_some h
                refine J.cSi Y_C_truth (As := [.int (1 : Int32)]) (rest := []) d_H_joined_146 mi_C_truth ms_C_truth lk_H_80 ⟨rfl, rfl, Nat.le_of_ble_eq_true rfl⟩ (c_C_truth hG zm14) rfl (Nat.le_trans jcN (Nat.le_of_ble_eq_true rfl)) ?_
                cases h
                exact J.iret d_H_joined_149 rfl (vp_nar_int _) rfl
            · rw [if_neg c6] at h
              by_cases c7 : x2 = (7 : Int32)
              · rw [if_pos c7] at h
                refine J.tsIn 150 d_H_joined_8 c7 (by decide) (by decide) rfl (by decide) ?_
                refine J.iload_n 1 d_H_joined_150 rfl rfl ?_
                refine J.iload_n 2 d_H_joined_151 rfl rfl ?_
                refine J.icmp_lt 159 d_H_joined_152 rfl (fun c => ?_) (fun c => ?_)
                · rw [if_pos c] at h
                  refine J.iconst (v := (0 : Int32)) d_H_joined_159 ki_0 ?_
                  obtain ⟨x7, m8, zm8, h⟩ := jbd_some h
                  refine J.cSi Y_C_truth (As := [.int (0 : Int32)]) (rest := []) d_H_joined_160 mi_C_truth ms_C_truth lk_H_80 ⟨rfl, rfl, Nat.le_of_ble_eq_true rfl⟩ (c_C_truth hG zm8) rfl (Nat.le_trans jcN (Nat.le_of_ble_eq_true rfl)) ?_
                  cases h
                  exact J.iret d_H_joined_163 rfl (vp_nar_int _) rfl
                · rw [if_neg c] at h
                  refine J.iconst (v := (1 : Int32)) d_H_joined_155 ki_1 ?_
                  refine J.goto 160 d_H_joined_156 rfl ?_
                  obtain ⟨x9, m10, zm10, h⟩ := jbd_some h
                  refine J.cSi Y_C_truth (As := [.int (1 : Int32)]) (rest := []) d_H_joined_160 mi_C_truth ms_C_truth lk_H_80 ⟨rfl, rfl, Nat.le_of_ble_eq_true rfl⟩ (c_C_truth hG zm10) rfl (Nat.le_trans jcN (Nat.le_of_ble_eq_true rfl)) ?_
                  cases h
                  exact J.iret d_H_joined_163 rfl (vp_nar_int _) rfl
              · rw [if_neg c7] at h
                by_cases c8 : x2 = (8 : Int32)
                · rw [if_pos c8] at h
                  refine J.tsIn 164 d_H_joined_8 c8 (by decide) (by decide) rfl (by decide) ?_
                  refine J.iload_n 1 d_H_joined_164 rfl rfl ?_
                  refine J.iload_n 2 d_H_joined_165 rfl rfl ?_
                  refine J.icmp_le 173 d_H_joined_166 rfl (fun c => ?_) (fun c => ?_)
                  · rw [if_pos c] at h
                    refine J.iconst (v := (0 : Int32)) d_H_joined_173 ki_0 ?_
                    obtain ⟨x3, m4, zm4, h⟩ := jbd_some h
                    refine J.cSi Y_C_truth (As := [.int (0 : Int32)]) (rest := []) d_H_joined_174 mi_C_truth ms_C_truth lk_H_80 ⟨rfl, rfl, Nat.le_of_ble_eq_true rfl⟩ (c_C_truth hG zm4) rfl (Nat.le_trans jcN (Nat.le_of_ble_eq_true rfl)) ?_
                    cases h
                    exact J.iret d_H_joined_177 rfl (vp_nar_int _) rfl
                  · rw [if_neg c] at h
                    refine J.iconst (v := (1 : Int32)) d_H_joined_169 ki_1 ?_
                    refine J.goto 174 d_H_joined_170 rfl ?_
                    obtain ⟨x5, m6, zm6, h⟩ := jbd_some h
                    refine J.cSi Y_C_truth (As := [.int (1 : Int32)]) (rest := []) d_H_joined_174 mi_C_truth ms_C_truth lk_H_80 ⟨rfl, rfl, Nat.le_of_ble_eq_true rfl⟩ (c_C_truth hG zm6) rfl (Nat.le_trans jcN (Nat.le_of_ble_eq_true rfl)) ?_
                    cases h
                    exact J.iret d_H_joined_177 rfl (vp_nar_int _) rfl
                · rw [if_neg c8] at h
                  by_cases c9 : x2 = (9 : Int32)
                  · rw [if_pos c9] at h
                    refine J.tsIn 178 d_H_joined_8 c9 (by decide) (by decide) rfl (by decide) ?_
                    refine J.iload_n 1 d_H_joined_178 rfl rfl ?_
                    refine J.iload_n 2 d_H_joined_179 rfl rfl ?_
                    refine J.iadd d_H_joined_180 ?_
                    cases h
                    exact J.iret d_H_joined_181 rfl (vp_nar_int _) rfl
                  · rw [if_neg c9] at h
                    refine J.tsOut 182 d_H_joined_8 (jts1 (n := 9) (by decide) (fun k hk => match k, hk with | 0, _ => c1 | 1, _ => c2 | 2, _ => c3 | 3, _ => c4 | 4, _ => c5 | 5, _ => c6 | 6, _ => c7 | 7, _ => c8 | 8, _ => c9 | k + 9, hk => absurd hk (by omega))) rfl ?_
                    refine J.iload_n 1 d_H_joined_182 rfl rfl ?_
                    refine J.iload_n 2 d_H_joined_183 rfl rfl ?_
                    refine J.isub d_H_joined_184 ?_
                    cases h
                    exact J.iret d_H_joined_185 rfl (vp_nar_int _) rfl

def f_H_workOut (hb : Nat) (v1 : Int32) (v2 : Int32) (v3 : Nat) (m : jMem) : Option (Int32 × jMem) :=
  jl4 m (hb + 6) v1 fun q1 =>
  if q1 = 0 then
    some (v2, m)
  else
    jgd (jok q1 ∧ jok 1003) (if q1 = 1003 then
      if (64 : Int32) ≤ v2 then
        some (v2, m)
      else
        jgd (jtk q1) (
          jlt (jtkR q1) fun x2 =>
          jgd (jtag v3 = 1) (
            if x2 < (Int32.ofNat (jpar v3)) then
              jgd (jok q1 ∧ jok 1003) (if q1 = 1003 then
                jld 1 m (hb + 7) v1 fun x6 =>
                jst 1 m (hb + 8) v2 x6 fun m7 =>
                some ((v2 + (1 : Int32)), m7)
              else
                jgd (jtk q1) (
                  jlt (jtkR q1) fun x3 =>
                  jld 1 m v3 x3 fun x4 =>
                  jst 1 m (hb + 8) v2 x4 fun m5 =>
                  some ((v2 + (1 : Int32)), m5)))
            else
              some (v2, m)))
    else
      jgd (jtk q1) (
        jlt (jtkP q1) fun x8 =>
        if x8 = (2 : Int32) then
          if (64 : Int32) ≤ v2 then
            some (v2, m)
          else
            jgd (jtk q1) (
              jlt (jtkR q1) fun x21 =>
              jgd (jtag v3 = 1) (
                if x21 < (Int32.ofNat (jpar v3)) then
                  jgd (jok q1 ∧ jok 1003) (if q1 = 1003 then
                    jld 1 m (hb + 7) v1 fun x25 =>
                    jst 1 m (hb + 8) v2 x25 fun m26 =>
                    some ((v2 + (1 : Int32)), m26)
                  else
                    jgd (jtk q1) (
                      jlt (jtkR q1) fun x22 =>
                      jld 1 m v3 x22 fun x23 =>
                      jst 1 m (hb + 8) v2 x23 fun m24 =>
                      some ((v2 + (1 : Int32)), m24)))
                else
                  some (v2, m)))
        else
          jgd (jok q1 ∧ jok 1025) (if q1 = 1025 then
            if v2 < (1 : Int32) then
              some (v2, m)
            else
              jld 1 m (hb + 8) (v2 - (1 : Int32)) fun x14 =>
              if x14 = 0 then
                jbd (f_C_truth (1 : Int32) m) fun x18 m19 =>
                jst 1 m19 (hb + 8) (v2 - (1 : Int32)) x18 fun m20 =>
                some (v2, m20)
              else
                jbd (f_C_truth (0 : Int32) m) fun x15 m16 =>
                jst 1 m16 (hb + 8) (v2 - (1 : Int32)) x15 fun m17 =>
                some (v2, m17)
          else
            if (2 : Int32) ≤ v2 then
              jld 1 m (hb + 8) (v2 - (2 : Int32)) fun x9 =>
              jld 1 m (hb + 8) (v2 - (1 : Int32)) fun x10 =>
              jbd (f_H_joined q1 x9 x10 m) fun x11 m12 =>
              jst 1 m12 (hb + 8) (v2 - (2 : Int32)) x11 fun m13 =>
              some ((v2 - (1 : Int32)), m13)
            else
              some (v2, m))))
theorem c_H_workOut {G : jG} (hG : jFul G) {hb : Nat} (hh : jhok hb) {v1 : Int32} {v2 : Int32} {v3 : Nat} {m : jMem} {r : (Int32 × jMem)} (h : f_H_workOut hb v1 v2 v3 m = some r) : jCt G Y_H_workOut [jr G hb, .int v1, .int v2, jr G v3] m (jri r) := by
  refine jCt.ov (ls := [(0, jr G hb), (1, .int v1), (2, .int v2), (3, jr G v3)]) mi_H_workOut (jAvR (jAvI (jAvI (jAvR jAvN)))) (Nat.le_of_ble_eq_true rfl) ?_ ⟨rfl, rfl⟩
  unfold f_H_workOut at h
  refine J.aload_n 0 d_H_workOut_0 rfl rfl ?_
  refine J.getF (n := hb + 6) hG d_H_workOut_1 fl_H_31 (jhok_F hh 8 rfl) (jhok_fx hh 8 6 rfl rfl) ?_
  refine J.iload_n 1 d_H_workOut_4 rfl rfl ?_
  obtain ⟨q1, eq1, g, h⟩ := jl4_some h
  refine J.a4 hG d_H_workOut_5 g eq1 ?_
  refine J.astore (lv := [(4, jr G q1), (0, jr G hb), (1, .int v1), (2, .int v2), (3, jr G v3)]) d_H_workOut_6 (by decide) (jfil rfl (jcaR (jcaI (jcaI (jcaR jcaN))))) ?_
  refine J.aload 0 d_H_workOut_8 rfl ?_
  refine J.ifnonnull 15 d_H_workOut_10 rfl (fun c => ?_) (fun c => ?_)
  · rw [if_neg c] at h
    refine J.aload 0 d_H_workOut_15 rfl ?_
    refine J.gets (i := 2) (nm := "NUMBER") d_H_workOut_17 (by decide) rfl (jt_4 116 rfl rfl) ?_
    obtain ⟨g, h⟩ := jgd_some h
    refine J.acmp_eq 32 d_H_workOut_20 rfl g.1 g.2 (fun c => ?_) (fun c => ?_)
    · rw [if_pos c] at h
      refine J.iload_n 3 d_H_workOut_32 rfl rfl ?_
      refine J.bipush (v := (64 : Int32)) d_H_workOut_33 kb_64 ?_
      refine J.icmp_ge 48 d_H_workOut_35 rfl (fun c => ?_) (fun c => ?_)
      · rw [if_pos c] at h
        refine J.iload_n 3 d_H_workOut_48 rfl rfl ?_
        cases h
        exact J.iret d_H_workOut_49 rfl (vp_nar_int _) rfl
      · rw [if_neg c] at h
        refine J.aload 0 d_H_workOut_38 rfl ?_
        obtain ⟨g, h⟩ := jgd_some h
        obtain ⟨x2, ex2, h⟩ := jlt_some h
        refine J.gkR d_H_workOut_40 g (Or.inr ⟨"CitingLetters", jn_8 230 rfl rfl⟩) ex2 ?_
        refine J.aload_n 4 d_H_workOut_43 rfl rfl ?_
        obtain ⟨g, h⟩ := jgd_some h
        refine J.aln hG d_H_workOut_44 (Or.inl g) rfl ?_
        refine J.icmp_lt 50 d_H_workOut_45 rfl (fun c => ?_) (fun c => ?_)
        · rw [if_pos c] at h
          refine J.aload_n 1 d_H_workOut_50 rfl rfl ?_
          refine J.getF (n := hb + 8) hG d_H_workOut_51 fl_H_37 (jhok_F hh 12 rfl) (jhok_fx hh 12 8 rfl rfl) ?_
          refine J.iload_n 3 d_H_workOut_54 rfl rfl ?_
          refine J.aload 0 d_H_workOut_55 rfl ?_
          refine J.gets (i := 2) (nm := "NUMBER") d_H_workOut_57 (by decide) rfl (jt_4 116 rfl rfl) ?_
          obtain ⟨g, h⟩ := jgd_some h
          refine J.acmp_ne 72 d_H_workOut_60 rfl g.1 g.2 (fun c => ?_) (fun c => ?_)
          · rw [if_neg c] at h
            refine J.aload_n 4 d_H_workOut_72 rfl rfl ?_
            refine J.aload 0 d_H_workOut_73 rfl ?_
            obtain ⟨g, h⟩ := jgd_some h
            obtain ⟨x3, ex3, h⟩ := jlt_some h
            refine J.gkR d_H_workOut_75 g (Or.inr ⟨"CitingLetters", jn_8 230 rfl rfl⟩) ex3 ?_
            obtain ⟨x4, ex4, g, h⟩ := jld_some h
            refine J.il hG d_H_workOut_78 g ex4 ?_
            obtain ⟨m5, hm5, g, h⟩ := jst_some h
            refine J.is hG d_H_workOut_79 g hm5 ?_
            refine J.iload_n 3 d_H_workOut_80 rfl rfl ?_
            refine J.iconst (v := (1 : Int32)) d_H_workOut_81 ki_1 ?_
            refine J.iadd d_H_workOut_82 ?_
            refine J.nop (pc' := 83) rfl ?_
            cases h
            exact J.iret d_H_workOut_83 rfl (vp_nar_int _) rfl
          · rw [if_pos c] at h
            refine J.aload_n 1 d_H_workOut_63 rfl rfl ?_
            refine J.getF (n := hb + 7) hG d_H_workOut_64 fl_H_34 (jhok_F hh 9 rfl) (jhok_fx hh 9 7 rfl rfl) ?_
            refine J.nop (pc' := 67) rfl ?_
            refine J.iload_n 2 d_H_workOut_67 rfl rfl ?_
            obtain ⟨x6, ex6, g, h⟩ := jld_some h
            refine J.il hG d_H_workOut_68 g ex6 ?_
            refine J.goto 79 d_H_workOut_69 rfl ?_
            obtain ⟨m7, hm7, g, h⟩ := jst_some h
            refine J.is hG d_H_workOut_79 g hm7 ?_
            refine J.iload_n 3 d_H_workOut_80 rfl rfl ?_
            refine J.iconst (v := (1 : Int32)) d_H_workOut_81 ki_1 ?_
            refine J.iadd d_H_workOut_82 ?_
            cases h
            exact J.iret d_H_workOut_83 rfl (vp_nar_int _) rfl
        · rw [if_neg c] at h
          refine J.nop (pc' := 48) rfl ?_
          refine J.iload_n 3 d_H_workOut_48 rfl rfl ?_
          cases h
          exact J.iret d_H_workOut_49 rfl (vp_nar_int _) rfl
    · rw [if_neg c] at h
      refine J.aload 0 d_H_workOut_23 rfl ?_
      obtain ⟨g, h⟩ := jgd_some h
      obtain ⟨x8, ex8, h⟩ := jlt_some h
      refine J.gkP d_H_workOut_25 g (Or.inr ⟨"CitingLetters", jn_8 229 rfl rfl⟩) ex8 ?_
      refine J.iconst (v := (2 : Int32)) d_H_workOut_28 ki_2 ?_
      refine J.icmp_ne 84 d_H_workOut_29 rfl (fun c => ?_) (fun c => ?_)
      · rw [if_neg c] at h
        refine J.aload 0 d_H_workOut_84 rfl ?_
        refine J.gets (i := 24) (nm := "NOT") d_H_workOut_86 (by decide) rfl (jt_4 117 rfl rfl) ?_
        obtain ⟨g, h⟩ := jgd_some h
        refine J.acmp_ne 126 d_H_workOut_89 rfl g.1 g.2 (fun c => ?_) (fun c => ?_)
        · rw [if_neg c] at h
          refine J.iload_n 3 d_H_workOut_126 rfl rfl ?_
          refine J.iconst (v := (2 : Int32)) d_H_workOut_127 ki_2 ?_
          refine J.icmp_ge 133 d_H_workOut_128 rfl (fun c => ?_) (fun c => ?_)
          · rw [if_pos c] at h
            refine J.aload_n 1 d_H_workOut_133 rfl rfl ?_
            refine J.getF (n := hb + 8) hG d_H_workOut_134 fl_H_37 (jhok_F hh 12 rfl) (jhok_fx hh 12 8 rfl rfl) ?_
            refine J.iload_n 3 d_H_workOut_137 rfl rfl ?_
            refine J.iconst (v := (2 : Int32)) d_H_workOut_138 ki_2 ?_
            refine J.isub d_H_workOut_139 ?_
            refine J.aload 0 d_H_workOut_140 rfl ?_
            refine J.aload_n 1 d_H_workOut_142 rfl rfl ?_
            refine J.getF (n := hb + 8) hG d_H_workOut_143 fl_H_37 (jhok_F hh 12 rfl) (jhok_fx hh 12 8 rfl rfl) ?_
            refine J.nop (pc' := 146) rfl ?_
            refine J.iload_n 3 d_H_workOut_146 rfl rfl ?_
            refine J.iconst (v := (2 : Int32)) d_H_workOut_147 ki_2 ?_
            refine J.isub d_H_workOut_148 ?_
            obtain ⟨x9, ex9, g, h⟩ := jld_some h
            refine J.il hG d_H_workOut_149 g ex9 ?_
            refine J.aload_n 1 d_H_workOut_150 rfl rfl ?_
            refine J.getF (n := hb + 8) hG d_H_workOut_151 fl_H_37 (jhok_F hh 12 rfl) (jhok_fx hh 12 8 rfl rfl) ?_
            refine J.iload_n 3 d_H_workOut_154 rfl rfl ?_
            refine J.iconst (v := (1 : Int32)) d_H_workOut_155 ki_1 ?_
            refine J.nop (pc' := 156) rfl ?_
            refine J.isub d_H_workOut_156 ?_
            obtain ⟨x10, ex10, g, h⟩ := jld_some h
            refine J.il hG d_H_workOut_157 g ex10 ?_
            obtain ⟨x11, m12, zm12, h⟩ := jbd_some h
            refine J.cSi Y_H_joined (As := [jr G q1, .int x9, .int x10]) (rest := [.int (v2 - (2 : Int32)), jr G (hb + 8)]) d_H_workOut_158 mi_H_joined ms_H_joined lk_H_84 ⟨rfl, rfl, Nat.le_of_ble_eq_true rfl⟩ (c_H_joined hG zm12) rfl (Nat.le_trans (jcI (jcR jcN)) (Nat.le_of_ble_eq_true rfl)) ?_
            obtain ⟨m13, hm13, g, h⟩ := jst_some h
            refine J.is hG d_H_workOut_161 g hm13 ?_
            refine J.iload_n 3 d_H_workOut_162 rfl rfl ?_
            refine J.iconst (v := (1 : Int32)) d_H_workOut_163 ki_1 ?_
            refine J.isub d_H_workOut_164 ?_
            cases h
            exact J.iret d_H_workOut_165 rfl (vp_nar_int _) rfl
          · rw [if_neg c] at h
            refine J.iload_n 3 d_H_workOut_131 rfl rfl ?_
            cases h
            exact J.iret d_H_workOut_132 rfl (vp_nar_int _) rfl
        · rw [if_pos c] at h
          refine J.iload_n 3 d_H_workOut_92 rfl rfl ?_
          refine J.iconst (v := (1 : Int32)) d_H_workOut_93 ki_1 ?_
          refine J.icmp_lt 124 d_H_workOut_94 rfl (fun c => ?_) (fun c => ?_)
          · rw [if_pos c] at h
            refine J.iload_n 3 d_H_workOut_124 rfl rfl ?_
            cases h
            exact J.iret d_H_workOut_125 rfl (vp_nar_int _) rfl
          · rw [if_neg c] at h
            refine J.aload_n 1 d_H_workOut_97 rfl rfl ?_
            refine J.getF (n := hb + 8) hG d_H_workOut_98 fl_H_37 (jhok_F hh 12 rfl) (jhok_fx hh 12 8 rfl rfl) ?_
            refine J.nop (pc' := 101) rfl ?_
            refine J.iload_n 3 d_H_workOut_101 rfl rfl ?_
            refine J.iconst (v := (1 : Int32)) d_H_workOut_102 ki_1 ?_
            refine J.isub d_H_workOut_103 ?_
            refine J.aload_n 1 d_H_workOut_104 rfl rfl ?_
            refine J.getF (n := hb + 8) hG d_H_workOut_105 fl_H_37 (jhok_F hh 12 rfl) (jhok_fx hh 12 8 rfl rfl) ?_
            refine J.iload_n 3 d_H_workOut_108 rfl rfl ?_
            refine J.iconst (v := (1 : Int32)) d_H_workOut_109 ki_1 ?_
            refine J.isub d_H_workOut_110 ?_
            refine J.nop (pc' := 111) rfl ?_
            obtain ⟨x14, ex14, g, h⟩ := jld_some h
            refine J.il hG d_H_workOut_111 g ex14 ?_
            refine J.if_ne 119 d_H_workOut_112 rfl (fun c => ?_) (fun c => ?_)
            · rw [if_neg c] at h
              refine J.iconst (v := (0 : Int32)) d_H_workOut_119 ki_0 ?_
              obtain ⟨x15, m16, zm16, h⟩ := jbd_some h
              refine J.cSi Y_C_truth (As := [.int (0 : Int32)]) (rest := [.int (v2 - (1 : Int32)), jr G (hb + 8)]) d_H_workOut_120 mi_C_truth ms_C_truth lk_H_80 ⟨rfl, rfl, Nat.le_of_ble_eq_true rfl⟩ (c_C_truth hG zm16) rfl (Nat.le_trans (jcI (jcR jcN)) (Nat.le_of_ble_eq_true rfl)) ?_
              obtain ⟨m17, hm17, g, h⟩ := jst_some h
              refine J.is hG d_H_workOut_123 g hm17 ?_
              refine J.iload_n 3 d_H_workOut_124 rfl rfl ?_
              cases h
              exact J.iret d_H_workOut_125 rfl (vp_nar_int _) rfl
            · rw [if_pos c] at h
              refine J.iconst (v := (1 : Int32)) d_H_workOut_115 ki_1 ?_
              refine J.goto 120 d_H_workOut_116 rfl ?_
              obtain ⟨x18, m19, zm19, h⟩ := jbd_some h
              refine J.cSi Y_C_truth (As := [.int (1 : Int32)]) (rest := [.int (v2 - (1 : Int32)), jr G (hb + 8)]) d_H_workOut_120 mi_C_truth ms_C_truth lk_H_80 ⟨rfl, rfl, Nat.le_of_ble_eq_true rfl⟩ (c_C_truth hG zm19) rfl (Nat.le_trans (jcI (jcR jcN)) (Nat.le_of_ble_eq_true rfl)) ?_
              obtain ⟨m20, hm20, g, h⟩ := jst_some h
              refine J.is hG d_H_workOut_123 g hm20 ?_
              refine J.iload_n 3 d_H_workOut_124 rfl rfl ?_
              cases h
              exact J.iret d_H_workOut_125 rfl (vp_nar_int _) rfl
      · rw [if_pos c] at h
        refine J.iload_n 3 d_H_workOut_32 rfl rfl ?_
        refine J.nop (pc' := 33) rfl ?_
        refine J.bipush (v := (64 : Int32)) d_H_workOut_33 kb_64 ?_
        refine J.icmp_ge 48 d_H_workOut_35 rfl (fun c => ?_) (fun c => ?_)
        · rw [if_pos c] at h
          refine J.iload_n 3 d_H_workOut_48 rfl rfl ?_
          cases h
          exact J.iret d_H_workOut_49 rfl (vp_nar_int _) rfl
        · rw [if_neg c] at h
          refine J.aload 0 d_H_workOut_38 rfl ?_
          obtain ⟨g, h⟩ := jgd_some h
          obtain ⟨x21, ex21, h⟩ := jlt_some h
          refine J.gkR d_H_workOut_40 g (Or.inr ⟨"CitingLetters", jn_8 230 rfl rfl⟩) ex21 ?_
          refine J.aload_n 4 d_H_workOut_43 rfl rfl ?_
          obtain ⟨g, h⟩ := jgd_some h
          refine J.aln hG d_H_workOut_44 (Or.inl g) rfl ?_
          refine J.icmp_lt 50 d_H_workOut_45 rfl (fun c => ?_) (fun c => ?_)
          · rw [if_pos c] at h
            refine J.aload_n 1 d_H_workOut_50 rfl rfl ?_
            refine J.getF (n := hb + 8) hG d_H_workOut_51 fl_H_37 (jhok_F hh 12 rfl) (jhok_fx hh 12 8 rfl rfl) ?_
            refine J.iload_n 3 d_H_workOut_54 rfl rfl ?_
            refine J.aload 0 d_H_workOut_55 rfl ?_
            refine J.gets (i := 2) (nm := "NUMBER") d_H_workOut_57 (by decide) rfl (jt_4 116 rfl rfl) ?_
            obtain ⟨g, h⟩ := jgd_some h
            refine J.acmp_ne 72 d_H_workOut_60 rfl g.1 g.2 (fun c => ?_) (fun c => ?_)
            · rw [if_neg c] at h
              refine J.aload_n 4 d_H_workOut_72 rfl rfl ?_
              refine J.aload 0 d_H_workOut_73 rfl ?_
              obtain ⟨g, h⟩ := jgd_some h
              obtain ⟨x22, ex22, h⟩ := jlt_some h
              refine J.gkR d_H_workOut_75 g (Or.inr ⟨"CitingLetters", jn_8 230 rfl rfl⟩) ex22 ?_
              obtain ⟨x23, ex23, g, h⟩ := jld_some h
              refine J.il hG d_H_workOut_78 g ex23 ?_
              obtain ⟨m24, hm24, g, h⟩ := jst_some h
              refine J.is hG d_H_workOut_79 g hm24 ?_
              refine J.iload_n 3 d_H_workOut_80 rfl rfl ?_
              refine J.iconst (v := (1 : Int32)) d_H_workOut_81 ki_1 ?_
              refine J.iadd d_H_workOut_82 ?_
              refine J.nop (pc' := 83) rfl ?_
              cases h
              exact J.iret d_H_workOut_83 rfl (vp_nar_int _) rfl
            · rw [if_pos c] at h
              refine J.aload_n 1 d_H_workOut_63 rfl rfl ?_
              refine J.getF (n := hb + 7) hG d_H_workOut_64 fl_H_34 (jhok_F hh 9 rfl) (jhok_fx hh 9 7 rfl rfl) ?_
              refine J.nop (pc' := 67) rfl ?_
              refine J.iload_n 2 d_H_workOut_67 rfl rfl ?_
              obtain ⟨x25, ex25, g, h⟩ := jld_some h
              refine J.il hG d_H_workOut_68 g ex25 ?_
              refine J.goto 79 d_H_workOut_69 rfl ?_
              obtain ⟨m26, hm26, g, h⟩ := jst_some h
              refine J.is hG d_H_workOut_79 g hm26 ?_
              refine J.iload_n 3 d_H_workOut_80 rfl rfl ?_
              refine J.iconst (v := (1 : Int32)) d_H_workOut_81 ki_1 ?_
              refine J.iadd d_H_workOut_82 ?_
              cases h
              exact J.iret d_H_workOut_83 rfl (vp_nar_int _) rfl
          · rw [if_neg c] at h
            refine J.iload_n 3 d_H_workOut_48 rfl rfl ?_
            refine J.nop (pc' := 49) rfl ?_
            cases h
            exact J.iret d_H_workOut_49 rfl (vp_nar_int _) rfl
  · rw [if_pos c] at h
    refine J.iload_n 3 d_H_workOut_13 rfl rfl ?_
    refine J.nop (pc' := 14) rfl ?_
    cases h
    exact J.iret d_H_workOut_14 rfl (vp_nar_int _) rfl

def lp_H_holds_24 (hb : Nat) (v1 : Int32) (v2 : Nat) (k50 : Int32 → jMem → Option (Int32 × jMem)) : Nat → Int32 → Int32 → jMem → Option (Int32 × jMem)
  | 0, _, _, _ => none
  | n + 1, v3, v4, m =>
    jld 1 m (hb + 5) v1 fun x2 =>
    if x2 ≤ v4 then
      k50 v3 m
    else
      jbd (f_H_workOut hb v4 v3 v2 m) fun x3 m4 =>
      lp_H_holds_24 hb v1 v2 k50 n x3 (v4 + (1 : Int32)) m4
def f_H_holds (hb : Nat) (v1 : Int32) (v2 : Nat) (m : jMem) : Option (Int32 × jMem) :=
  if v1 < 0 then
    some ((0 : Int32), m)
  else
    if v1 < (m hb 7) then
      jld 1 m (hb + 4) v1 fun x1 =>
      lp_H_holds_24 hb v1 v2 (fun w6 m5 =>
        if w6 = (1 : Int32) then
          jld 1 m5 (hb + 8) (0 : Int32) fun x7 =>
          if x7 = 0 then
            some ((0 : Int32), m5)
          else
            some ((1 : Int32), m5)
        else
          some ((0 : Int32), m5)) 5000 (0 : Int32) x1 m
    else
      some ((0 : Int32), m)
theorem jlp_H_holds_24 {G : jG} (hG : jFul G) {hb : Nat} (hh : jhok hb) (v1 : Int32) (v2 : Nat) (k50 : Int32 → jMem → Option (Int32 × jMem))
    (hk50 : ∀ (v3 : Int32) (m : jMem) (r : (Int32 × jMem)), k50 v3 m = some r → J G Y_H_holds 50 [(0, jr G hb), (3, .int v3)] [] m (jri r)) : ∀ (n : Nat) (v3 : Int32) (v4 : Int32) (m : jMem) (r : (Int32 × jMem)), lp_H_holds_24 hb v1 v2 k50 n v3 v4 m = some r → J G Y_H_holds 24 [(0, jr G hb), (1, .int v1), (2, jr G v2), (3, .int v3), (4, .int v4)] [] m (jri r) := by
  intro n
  induction n with
  | zero => intro v3 v4 m r h; unfold lp_H_holds_24 at h; cases h
  | succ n ih =>
    intro v3 v4 m r h
    unfold lp_H_holds_24 at h
    refine J.iload 4 d_H_holds_24 rfl ?_
    refine J.aload_n 0 d_H_holds_26 rfl rfl ?_
    refine J.getF (n := hb + 5) hG d_H_holds_27 fl_H_28 (jhok_F hh 6 rfl) (jhok_fx hh 6 5 rfl rfl) ?_
    refine J.iload_n 1 d_H_holds_30 rfl rfl ?_
    obtain ⟨x2, ex2, g, h⟩ := jld_some h
    refine J.il hG d_H_holds_31 g ex2 ?_
    refine J.icmp_ge 50 d_H_holds_32 rfl (fun c => ?_) (fun c => ?_)
    · rw [if_pos c] at h
      exact J.sub (ls' := [(0, jr G hb), (3, .int v3)]) [0, 3] rfl (hk50 v3 m _ h)
    · rw [if_neg c] at h
      refine J.aload_n 0 d_H_holds_35 rfl rfl ?_
      refine J.iload 4 d_H_holds_36 rfl ?_
      refine J.nop (pc' := 38) rfl ?_
      refine J.iload_n 3 d_H_holds_38 rfl rfl ?_
      refine J.aload_n 2 d_H_holds_39 rfl rfl ?_
      obtain ⟨x3, m4, zm4, h⟩ := jbd_some h
      refine J.cVi Y_H_workOut (As := [.int v4, .int v3, jr G v2]) (rest := []) hG d_H_holds_40 mi_H_workOut mv_H_workOut lk_H_64 ⟨rfl, rfl, Nat.le_of_ble_eq_true rfl⟩ (jhok_q hh) cc_1 (c_H_workOut hG hh zm4) rfl (Nat.le_trans jcN (Nat.le_of_ble_eq_true rfl)) ?_
      refine J.istore_n (lv := [(3, .int x3), (0, jr G hb), (1, .int v1), (2, jr G v2), (4, .int v4)]) d_H_holds_43 rfl (by decide) (jfil rfl (jcaR (jcaI (jcaR (jcaI (jcaI jcaN)))))) ?_
      refine J.iinc 4 (v := (1 : Int32)) (lv := [(4, .int (v4 + (1 : Int32))), (3, .int x3), (0, jr G hb), (1, .int v1), (2, jr G v2)]) d_H_holds_44 rfl ki_1 (by decide) rfl ?_
      refine J.goto 24 d_H_holds_47 rfl ?_
      exact J.sub (ls' := [(0, jr G hb), (1, .int v1), (2, jr G v2), (3, .int x3), (4, .int (v4 + (1 : Int32)))]) [2, 3, 4, 1, 0] rfl (ih x3 (v4 + (1 : Int32)) m4 _ h)
theorem c_H_holds {G : jG} (hG : jFul G) {hb : Nat} (hh : jhok hb) {v1 : Int32} {v2 : Nat} {m : jMem} {r : (Int32 × jMem)} (h : f_H_holds hb v1 v2 m = some r) : jCt G Y_H_holds [jr G hb, .int v1, jr G v2] m (jri r) := by
  refine jCt.ov (ls := [(0, jr G hb), (1, .int v1), (2, jr G v2)]) mi_H_holds (jAvR (jAvI (jAvR jAvN))) (Nat.le_of_ble_eq_true rfl) ?_ ⟨rfl, rfl⟩
  unfold f_H_holds at h
  refine J.iload_n 1 d_H_holds_0 rfl rfl ?_
  refine J.if_lt 12 d_H_holds_1 rfl (fun c => ?_) (fun c => ?_)
  · rw [if_pos c] at h
    refine J.iconst (v := (0 : Int32)) d_H_holds_12 ki_0 ?_
    cases h
    exact J.iret d_H_holds_13 rfl rfl rfl
  · rw [if_neg c] at h
    refine J.iload_n 1 d_H_holds_4 rfl rfl ?_
    refine J.aload_n 0 d_H_holds_5 rfl rfl ?_
    refine J.getI hG d_H_holds_6 fl_H_47 (jhok_I hh 7 rfl) ?_
    refine J.icmp_lt 14 d_H_holds_9 rfl (fun c => ?_) (fun c => ?_)
    · rw [if_pos c] at h
      refine J.iconst (v := (0 : Int32)) d_H_holds_14 ki_0 ?_
      refine J.istore_n (lv := [(3, .int (0 : Int32)), (0, jr G hb), (1, .int v1), (2, jr G v2)]) d_H_holds_15 rfl (by decide) (jfil rfl (jcaR (jcaI (jcaR jcaN)))) ?_
      refine J.aload_n 1 d_H_holds_16 rfl rfl ?_
      refine J.getF (n := hb + 4) hG d_H_holds_17 fl_H_25 (jhok_F hh 5 rfl) (jhok_fx hh 5 4 rfl rfl) ?_
      refine J.iload_n 2 d_H_holds_20 rfl rfl ?_
      obtain ⟨x1, ex1, g, h⟩ := jld_some h
      refine J.il hG d_H_holds_21 g ex1 ?_
      refine J.istore (lv := [(4, .int x1), (3, .int (0 : Int32)), (0, jr G hb), (1, .int v1), (2, jr G v2)]) d_H_holds_22 (by decide) rfl ?_
      refine J.sub (ls' := [(0, jr G hb), (1, .int v1), (2, jr G v2), (3, .int (0 : Int32)), (4, .int x1)]) [2, 3, 4, 1, 0] rfl ?_
      refine jlp_H_holds_24 hG hh v1 v2 _ ?_ _ (0 : Int32) x1 m _ h
      intro w6 m5 r h
      refine J.iload_n 1 d_H_holds_50 rfl rfl ?_
      refine J.iconst (v := (1 : Int32)) d_H_holds_51 ki_1 ?_
      refine J.icmp_ne 68 d_H_holds_52 rfl (fun c => ?_) (fun c => ?_)
      · rw [if_neg c] at h
        refine J.iconst (v := (0 : Int32)) d_H_holds_68 ki_0 ?_
        cases h
        exact J.iret d_H_holds_69 rfl rfl rfl
      · rw [if_pos c] at h
        refine J.aload_n 0 d_H_holds_55 rfl rfl ?_
        refine J.getF (n := hb + 8) hG d_H_holds_56 fl_H_37 (jhok_F hh 12 rfl) (jhok_fx hh 12 8 rfl rfl) ?_
        refine J.iconst (v := (0 : Int32)) d_H_holds_59 ki_0 ?_
        obtain ⟨x7, ex7, g, h⟩ := jld_some h
        refine J.il hG d_H_holds_60 g ex7 ?_
        refine J.if_eq 68 d_H_holds_61 rfl (fun c => ?_) (fun c => ?_)
        · rw [if_pos c] at h
          refine J.iconst (v := (0 : Int32)) d_H_holds_68 ki_0 ?_
          cases h
          exact J.iret d_H_holds_69 rfl rfl rfl
        · rw [if_neg c] at h
          refine J.nop (pc' := 64) rfl ?_
          refine J.iconst (v := (1 : Int32)) d_H_holds_64 ki_1 ?_
          refine J.goto 69 d_H_holds_65 rfl ?_
          cases h
          exact J.iret d_H_holds_69 rfl rfl rfl
    · rw [if_neg c] at h
      refine J.iconst (v := (0 : Int32)) d_H_holds_12 ki_0 ?_
      cases h
      exact J.iret d_H_holds_13 rfl rfl rfl
