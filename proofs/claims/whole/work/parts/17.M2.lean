def lp_M_written_96 (v1 : Int32) (v2 : Int32) (v6 : Int32) (k141 : jMem → Option (Unit × jMem)) : Nat → Int32 → jMem → Option (Unit × jMem)
  | 0, _, _ => none
  | n + 1, v7, m =>
    if v6 ≤ v7 then
      k141 m
    else
      jld 1 m 135 v1 fun x12 =>
      if ((x12 >>> (v7 &&& 31)) &&& (1 : Int32)) = (1 : Int32) then
        jld 1 m 128 v6 fun x13 =>
        jld 1 m 128 v7 fun x14 =>
        jst 1 m 128 v6 (x13 ||| x14) fun m15 =>
        lp_M_written_96 v1 v2 v6 k141 n (v7 + (1 : Int32)) m15
      else
        lp_M_written_96 v1 v2 v6 k141 n (v7 + (1 : Int32)) m
def lp_M_written_154 (v1 : Int32) (v2 : Int32) (v6 : Int32) (k181 : jMem → Option (Unit × jMem)) : Nat → Int32 → jMem → Option (Unit × jMem)
  | 0, _, _ => none
  | n + 1, v7, m =>
    if (6 : Int32) ≤ v7 then
      k181 m
    else
      jst 1 m 136 (((30 : Int32) * v7) + v6) (-1 : Int32) fun m18 =>
      lp_M_written_154 v1 v2 v6 k181 n (v7 + (1 : Int32)) m18
def lp_M_written_213 (v1 : Int32) (v2 : Int32) (v6 : Int32) (k245 : jMem → Option (Unit × jMem)) : Nat → Int32 → jMem → Option (Unit × jMem)
  | 0, _, _ => none
  | n + 1, v7, m =>
    if (6 : Int32) ≤ v7 then
      k245 m
    else
      if ((v2 >>> (v7 &&& 31)) &&& (1 : Int32)) = (1 : Int32) then
        jbd (f_M_post v6 v1 v7 m) fun u23 m24 =>
        lp_M_written_213 v1 v2 v6 k245 n (v7 + (1 : Int32)) m24
      else
        lp_M_written_213 v1 v2 v6 k245 n (v7 + (1 : Int32)) m
def f_M_written (v1 : Int32) (v2 : Int32) (v3 : Int32) (v4 : Int32) (v5 : Int32) (m : jMem) : Option (Unit × jMem) :=
  jst 1 m 121 (m 109 33) v1 fun m1 =>
  jst 1 m1 122 (m 109 33) (m1 109 31) fun m2 =>
  jst 1 m2 123 (m 109 33) v3 fun m3 =>
  jst 1 m3 124 (m 109 33) v2 fun m4 =>
  jst 1 m4 125 (m 109 33) v4 fun m5 =>
  jst 1 m5 126 (m 109 33) v5 fun m6 =>
  jst 2 m6 129 (m 109 33) (jbz (0 : Int32)) fun m7 =>
  jld 1 m7 135 v1 fun x8 =>
  jst 1 m7 127 (m 109 33) x8 fun m9 =>
  jld 1 m9 135 v1 fun x10 =>
  jst 1 m9 128 (m 109 33) x10 fun m11 =>
  lp_M_written_96 v1 v2 (m 109 33) (fun m16 =>
    jpu m16 109 33 ((m16 109 33) + (1 : Int32)) fun m17 =>
    lp_M_written_154 v1 v2 (m 109 33) (fun m19 =>
      jld 1 m19 135 v1 fun x20 =>
      jst 1 m19 135 v1 (x20 ||| ((1 : Int32) <<< ((m 109 33) &&& 31))) fun m21 =>
      jst 1 m21 136 (((30 : Int32) * v1) + (m 109 33)) (m21 109 31) fun m22 =>
      lp_M_written_213 v1 v2 (m 109 33) (fun m25 =>
        some ((), m25)) 5000 (0 : Int32) m22) 5000 (0 : Int32) m17) 5000 (0 : Int32) m11
theorem jlp_M_written_96 {G : jG} (hG : jFul G) (v1 : Int32) (v2 : Int32) (v6 : Int32) (k141 : jMem → Option (Unit × jMem))
    (hk141 : ∀ (m : jMem) (r : (Unit × jMem)), k141 m = some r → J G Y_M_written 141 [(0, jr G 109), (1, .int v1), (2, .int v2), (6, .int v6)] [] m (jrv r)) : ∀ (n : Nat) (v7 : Int32) (m : jMem) (r : (Unit × jMem)), lp_M_written_96 v1 v2 v6 k141 n v7 m = some r → J G Y_M_written 96 [(0, jr G 109), (1, .int v1), (2, .int v2), (6, .int v6), (7, .int v7)] [] m (jrv r) := by
  intro n
  induction n with
  | zero => intro v7 m r h; unfold lp_M_written_96 at h; cases h
  | succ n ih =>
    intro v7 m r h
    unfold lp_M_written_96 at h
    refine J.iload 4 d_M_written_96 rfl ?_
    refine J.iload 3 d_M_written_98 rfl ?_
    refine J.icmp_ge 141 d_M_written_100 rfl (fun c => ?_) (fun c => ?_)
    · rw [if_pos c] at h
      exact J.sub (ls' := [(0, jr G 109), (1, .int v1), (2, .int v2), (6, .int v6)]) [0, 1, 2, 3] rfl (hk141  m _ h)
    · rw [if_neg c] at h
      refine J.aload_n 0 d_M_written_103 rfl rfl ?_
      refine J.getF (n := 135) hG d_M_written_104 fl_M_90 ck_109_53 rfl ?_
      refine J.iload_n 1 d_M_written_107 rfl rfl ?_
      obtain ⟨x12, ex12, g, h⟩ := jld_some h
      refine J.il hG d_M_written_108 g ex12 ?_
      refine J.iload 4 d_M_written_109 rfl ?_
      refine J.nop (pc' := 111) rfl ?_
      refine J.ishr d_M_written_111 ?_
      refine J.iconst (v := (1 : Int32)) d_M_written_112 ki_1 ?_
      refine J.iand d_M_written_113 ?_
      refine J.iconst (v := (1 : Int32)) d_M_written_114 ki_1 ?_
      refine J.icmp_ne 135 d_M_written_115 rfl (fun c => ?_) (fun c => ?_)
      · rw [if_neg c] at h
        refine J.iinc 4 (v := (1 : Int32)) (lv := [(7, .int (v7 + (1 : Int32))), (0, jr G 109), (1, .int v1), (2, .int v2), (6, .int v6)]) d_M_written_135 rfl ki_1 (by decide) rfl ?_
        refine J.goto 96 d_M_written_138 rfl ?_
        exact J.sub (ls' := [(0, jr G 109), (1, .int v1), (2, .int v2), (6, .int v6), (7, .int (v7 + (1 : Int32)))]) [1, 2, 3, 4, 0] rfl (ih (v7 + (1 : Int32)) m _ h)
      · rw [if_pos c] at h
        refine J.aload_n 0 d_M_written_118 rfl rfl ?_
        refine J.getF (n := 128) hG d_M_written_119 fl_M_69 ck_109_41 rfl ?_
        refine J.iload 3 d_M_written_122 rfl ?_
        refine J.nop (pc' := 124) rfl ?_
        refine J.dup2 d_M_written_124 rfl (jr_cat _ _) ?_
        obtain ⟨x13, ex13, g, h⟩ := jld_some h
        refine J.il hG d_M_written_125 g ex13 ?_
        refine J.aload_n 0 d_M_written_126 rfl rfl ?_
        refine J.getF (n := 128) hG d_M_written_127 fl_M_69 ck_109_41 rfl ?_
        refine J.iload 4 d_M_written_130 rfl ?_
        obtain ⟨x14, ex14, g, h⟩ := jld_some h
        refine J.il hG d_M_written_132 g ex14 ?_
        refine J.ior d_M_written_133 ?_
        obtain ⟨m15, hm15, g, h⟩ := jst_some h
        refine J.is hG d_M_written_134 g hm15 ?_
        refine J.nop (pc' := 135) rfl ?_
        refine J.iinc 4 (v := (1 : Int32)) (lv := [(7, .int (v7 + (1 : Int32))), (0, jr G 109), (1, .int v1), (2, .int v2), (6, .int v6)]) d_M_written_135 rfl ki_1 (by decide) rfl ?_
        refine J.goto 96 d_M_written_138 rfl ?_
        exact J.sub (ls' := [(0, jr G 109), (1, .int v1), (2, .int v2), (6, .int v6), (7, .int (v7 + (1 : Int32)))]) [1, 2, 3, 4, 0] rfl (ih (v7 + (1 : Int32)) m15 _ h)
theorem jlp_M_written_154 {G : jG} (hG : jFul G) (v1 : Int32) (v2 : Int32) (v6 : Int32) (k181 : jMem → Option (Unit × jMem))
    (hk181 : ∀ (m : jMem) (r : (Unit × jMem)), k181 m = some r → J G Y_M_written 181 [(0, jr G 109), (1, .int v1), (2, .int v2), (6, .int v6)] [] m (jrv r)) : ∀ (n : Nat) (v7 : Int32) (m : jMem) (r : (Unit × jMem)), lp_M_written_154 v1 v2 v6 k181 n v7 m = some r → J G Y_M_written 154 [(0, jr G 109), (1, .int v1), (2, .int v2), (6, .int v6), (7, .int v7)] [] m (jrv r) := by
  intro n
  induction n with
  | zero => intro v7 m r h; unfold lp_M_written_154 at h; cases h
  | succ n ih =>
    intro v7 m r h
    unfold lp_M_written_154 at h
    refine J.iload 4 d_M_written_154 rfl ?_
    refine J.bipush (v := (6 : Int32)) d_M_written_156 kb_6 ?_
    refine J.icmp_ge 181 d_M_written_158 rfl (fun c => ?_) (fun c => ?_)
    · rw [if_pos c] at h
      exact J.sub (ls' := [(0, jr G 109), (1, .int v1), (2, .int v2), (6, .int v6)]) [0, 1, 2, 3] rfl (hk181  m _ h)
    · rw [if_neg c] at h
      refine J.aload_n 0 d_M_written_161 rfl rfl ?_
      refine J.getF (n := 136) hG d_M_written_162 fl_M_93 ck_109_54 rfl ?_
      refine J.bipush (v := (30 : Int32)) d_M_written_165 kb_30 ?_
      refine J.iload 4 d_M_written_167 rfl ?_
      refine J.imul d_M_written_169 ?_
      refine J.nop (pc' := 170) rfl ?_
      refine J.iload 3 d_M_written_170 rfl ?_
      refine J.iadd d_M_written_172 ?_
      refine J.iconst (v := (-1 : Int32)) d_M_written_173 ki_m1 ?_
      obtain ⟨m18, hm18, g, h⟩ := jst_some h
      refine J.is hG d_M_written_174 g hm18 ?_
      refine J.iinc 4 (v := (1 : Int32)) (lv := [(7, .int (v7 + (1 : Int32))), (0, jr G 109), (1, .int v1), (2, .int v2), (6, .int v6)]) d_M_written_175 rfl ki_1 (by decide) rfl ?_
      refine J.goto 154 d_M_written_178 rfl ?_
      exact J.sub (ls' := [(0, jr G 109), (1, .int v1), (2, .int v2), (6, .int v6), (7, .int (v7 + (1 : Int32)))]) [1, 2, 3, 4, 0] rfl (ih (v7 + (1 : Int32)) m18 _ h)
theorem jlp_M_written_213 {G : jG} (hG : jFul G) (v1 : Int32) (v2 : Int32) (v6 : Int32) (k245 : jMem → Option (Unit × jMem))
    (hk245 : ∀ (m : jMem) (r : (Unit × jMem)), k245 m = some r → J G Y_M_written 245 [] [] m (jrv r)) : ∀ (n : Nat) (v7 : Int32) (m : jMem) (r : (Unit × jMem)), lp_M_written_213 v1 v2 v6 k245 n v7 m = some r → J G Y_M_written 213 [(0, jr G 109), (1, .int v1), (2, .int v2), (6, .int v6), (7, .int v7)] [] m (jrv r) := by
  intro n
  induction n with
  | zero => intro v7 m r h; unfold lp_M_written_213 at h; cases h
  | succ n ih =>
    intro v7 m r h
    unfold lp_M_written_213 at h
    refine J.iload 4 d_M_written_213 rfl ?_
    refine J.bipush (v := (6 : Int32)) d_M_written_215 kb_6 ?_
    refine J.icmp_ge 245 d_M_written_217 rfl (fun c => ?_) (fun c => ?_)
    · rw [if_pos c] at h
      exact J.sub (ls' := []) [] rfl (hk245  m _ h)
    · rw [if_neg c] at h
      refine J.iload_n 2 d_M_written_220 rfl rfl ?_
      refine J.iload 4 d_M_written_221 rfl ?_
      refine J.ishr d_M_written_223 ?_
      refine J.iconst (v := (1 : Int32)) d_M_written_224 ki_1 ?_
      refine J.iand d_M_written_225 ?_
      refine J.nop (pc' := 226) rfl ?_
      refine J.iconst (v := (1 : Int32)) d_M_written_226 ki_1 ?_
      refine J.icmp_ne 239 d_M_written_227 rfl (fun c => ?_) (fun c => ?_)
      · rw [if_neg c] at h
        refine J.iinc 4 (v := (1 : Int32)) (lv := [(7, .int (v7 + (1 : Int32))), (0, jr G 109), (1, .int v1), (2, .int v2), (6, .int v6)]) d_M_written_239 rfl ki_1 (by decide) rfl ?_
        refine J.goto 213 d_M_written_242 rfl ?_
        exact J.sub (ls' := [(0, jr G 109), (1, .int v1), (2, .int v2), (6, .int v6), (7, .int (v7 + (1 : Int32)))]) [1, 2, 3, 4, 0] rfl (ih (v7 + (1 : Int32)) m _ h)
      · rw [if_pos c] at h
        refine J.aload_n 0 d_M_written_230 rfl rfl ?_
        refine J.iload 3 d_M_written_231 rfl ?_
        refine J.iload_n 1 d_M_written_233 rfl rfl ?_
        refine J.iload 4 d_M_written_234 rfl ?_
        obtain ⟨u23, m24, zm24, h⟩ := jbd_some h
        refine J.cVv Y_M_post (As := [.int v6, .int v1, .int v7]) (rest := []) hG d_M_written_236 mi_M_post mv_M_post lk_M_302 ⟨rfl, rfl, Nat.le_of_ble_eq_true rfl⟩ cq_109 cc_10 (c_M_post hG zm24) rfl (Nat.le_trans jcN (Nat.le_of_ble_eq_true rfl)) ?_
        refine J.iinc 4 (v := (1 : Int32)) (lv := [(7, .int (v7 + (1 : Int32))), (0, jr G 109), (1, .int v1), (2, .int v2), (6, .int v6)]) d_M_written_239 rfl ki_1 (by decide) rfl ?_
        refine J.nop (pc' := 242) rfl ?_
        refine J.goto 213 d_M_written_242 rfl ?_
        exact J.sub (ls' := [(0, jr G 109), (1, .int v1), (2, .int v2), (6, .int v6), (7, .int (v7 + (1 : Int32)))]) [1, 2, 3, 4, 0] rfl (ih (v7 + (1 : Int32)) m24 _ h)
theorem c_M_written {G : jG} (hG : jFul G) {v1 : Int32} {v2 : Int32} {v3 : Int32} {v4 : Int32} {v5 : Int32} {m : jMem} {r : (Unit × jMem)} (h : f_M_written v1 v2 v3 v4 v5 m = some r) : jCt G Y_M_written [jr G 109, .int v1, .int v2, .int v3, .int v4, .int v5] m (jrv r) := by
  refine jCt.ov (ls := [(0, jr G 109), (1, .int v1), (2, .int v2), (3, .int v3), (4, .int v4), (5, .int v5)]) mi_M_written (jAvR (jAvI (jAvI (jAvI (jAvI (jAvI jAvN)))))) (Nat.le_of_ble_eq_true rfl) ?_ ⟨rfl, rfl⟩
  unfold f_M_written at h
  refine J.aload_n 0 d_M_written_0 rfl rfl ?_
  refine J.getI hG d_M_written_1 fl_M_277 ck_109_33 ?_
  refine J.istore (lv := [(6, .int (m 109 33)), (0, jr G 109), (1, .int v1), (2, .int v2), (3, .int v3), (4, .int v4), (5, .int v5)]) d_M_written_4 (by decide) rfl ?_
  refine J.aload_n 1 d_M_written_6 rfl rfl ?_
  refine J.getF (n := 121) hG d_M_written_7 fl_M_48 ck_109_34 rfl ?_
  refine J.iload 0 d_M_written_10 rfl ?_
  refine J.iload_n 2 d_M_written_12 rfl rfl ?_
  obtain ⟨m1, hm1, g, h⟩ := jst_some h
  refine J.is hG d_M_written_13 g hm1 ?_
  refine J.nop (pc' := 14) rfl ?_
  refine J.aload_n 1 d_M_written_14 rfl rfl ?_
  refine J.getF (n := 122) hG d_M_written_15 fl_M_51 ck_109_35 rfl ?_
  refine J.iload 0 d_M_written_18 rfl ?_
  refine J.aload_n 1 d_M_written_20 rfl rfl ?_
  refine J.getI hG d_M_written_21 fl_M_295 ck_109_31 ?_
  obtain ⟨m2, hm2, g, h⟩ := jst_some h
  refine J.is hG d_M_written_24 g hm2 ?_
  refine J.aload_n 1 d_M_written_25 rfl rfl ?_
  refine J.getF (n := 123) hG d_M_written_26 fl_M_54 ck_109_36 rfl ?_
  refine J.nop (pc' := 29) rfl ?_
  refine J.iload 0 d_M_written_29 rfl ?_
  refine J.iload_n 4 d_M_written_31 rfl rfl ?_
  obtain ⟨m3, hm3, g, h⟩ := jst_some h
  refine J.is hG d_M_written_32 g hm3 ?_
  refine J.aload_n 1 d_M_written_33 rfl rfl ?_
  refine J.getF (n := 124) hG d_M_written_34 fl_M_57 ck_109_37 rfl ?_
  refine J.iload 0 d_M_written_37 rfl ?_
  refine J.iload_n 3 d_M_written_39 rfl rfl ?_
  obtain ⟨m4, hm4, g, h⟩ := jst_some h
  refine J.is hG d_M_written_40 g hm4 ?_
  refine J.nop (pc' := 41) rfl ?_
  refine J.aload_n 1 d_M_written_41 rfl rfl ?_
  refine J.getF (n := 125) hG d_M_written_42 fl_M_60 ck_109_38 rfl ?_
  refine J.iload 0 d_M_written_45 rfl ?_
  refine J.iload 5 d_M_written_47 rfl ?_
  obtain ⟨m5, hm5, g, h⟩ := jst_some h
  refine J.is hG d_M_written_49 g hm5 ?_
  refine J.aload_n 1 d_M_written_50 rfl rfl ?_
  refine J.getF (n := 126) hG d_M_written_51 fl_M_63 ck_109_39 rfl ?_
  refine J.iload 0 d_M_written_54 rfl ?_
  refine J.nop (pc' := 56) rfl ?_
  refine J.iload 6 d_M_written_56 rfl ?_
  obtain ⟨m6, hm6, g, h⟩ := jst_some h
  refine J.is hG d_M_written_58 g hm6 ?_
  refine J.aload_n 1 d_M_written_59 rfl rfl ?_
  refine J.getF (n := 129) hG d_M_written_60 fl_M_72 ck_109_42 rfl ?_
  refine J.iload 0 d_M_written_63 rfl ?_
  refine J.iconst (v := (0 : Int32)) d_M_written_65 ki_0 ?_
  obtain ⟨m7, hm7, g, h⟩ := jst_some h
  refine J.zs hG d_M_written_66 g hm7 ?_
  refine J.aload_n 1 d_M_written_67 rfl rfl ?_
  refine J.nop (pc' := 68) rfl ?_
  refine J.getF (n := 127) hG d_M_written_68 fl_M_66 ck_109_40 rfl ?_
  refine J.iload 0 d_M_written_71 rfl ?_
  refine J.aload_n 1 d_M_written_73 rfl rfl ?_
  refine J.getF (n := 135) hG d_M_written_74 fl_M_90 ck_109_53 rfl ?_
  refine J.iload_n 2 d_M_written_77 rfl rfl ?_
  obtain ⟨x8, ex8, g, h⟩ := jld_some h
  refine J.il hG d_M_written_78 g ex8 ?_
  obtain ⟨m9, hm9, g, h⟩ := jst_some h
  refine J.is hG d_M_written_79 g hm9 ?_
  refine J.aload_n 1 d_M_written_80 rfl rfl ?_
  refine J.nop (pc' := 81) rfl ?_
  refine J.getF (n := 128) hG d_M_written_81 fl_M_69 ck_109_41 rfl ?_
  refine J.iload 0 d_M_written_84 rfl ?_
  refine J.aload_n 1 d_M_written_86 rfl rfl ?_
  refine J.getF (n := 135) hG d_M_written_87 fl_M_90 ck_109_53 rfl ?_
  refine J.iload_n 2 d_M_written_90 rfl rfl ?_
  obtain ⟨x10, ex10, g, h⟩ := jld_some h
  refine J.il hG d_M_written_91 g ex10 ?_
  obtain ⟨m11, hm11, g, h⟩ := jst_some h
  refine J.is hG d_M_written_92 g hm11 ?_
  refine J.iconst (v := (0 : Int32)) d_M_written_93 ki_0 ?_
  refine J.nop (pc' := 94) rfl ?_
  refine J.istore (lv := [(7, .int (0 : Int32)), (6, .int (m 109 33)), (0, jr G 109), (1, .int v1), (2, .int v2), (3, .int v3), (4, .int v4), (5, .int v5)]) d_M_written_94 (by decide) rfl ?_
  refine J.sub (ls' := [(0, jr G 109), (1, .int v1), (2, .int v2), (6, .int (m 109 33)), (7, .int (0 : Int32))]) [2, 3, 4, 1, 0] rfl ?_
  refine jlp_M_written_96 hG v1 v2 (m 109 33) _ ?_ _ (0 : Int32) m11 _ h
  intro m16 r h
  refine J.aload_n 0 d_M_written_141 rfl rfl ?_
  refine J.dup d_M_written_142 (jr_cat _ _) ?_
  refine J.getI hG d_M_written_143 fl_M_277 ck_109_33 ?_
  refine J.iconst (v := (1 : Int32)) d_M_written_146 ki_1 ?_
  refine J.iadd d_M_written_147 ?_
  obtain ⟨m17, hm17, h⟩ := jpu_some h
  refine J.putI hG d_M_written_148 fl_M_277 fp_10_33 ck_109_33 hm17 ?_
  refine J.iconst (v := (0 : Int32)) d_M_written_151 ki_0 ?_
  refine J.istore (lv := [(7, .int (0 : Int32)), (0, jr G 109), (1, .int v1), (2, .int v2), (6, .int (m 109 33))]) d_M_written_152 (by decide) rfl ?_
  refine J.sub (ls' := [(0, jr G 109), (1, .int v1), (2, .int v2), (6, .int (m 109 33)), (7, .int (0 : Int32))]) [1, 2, 3, 4, 0] rfl ?_
  refine jlp_M_written_154 hG v1 v2 (m 109 33) _ ?_ _ (0 : Int32) m17 _ h
  intro m19 r h
  refine J.aload_n 0 d_M_written_181 rfl rfl ?_
  refine J.getF (n := 135) hG d_M_written_182 fl_M_90 ck_109_53 rfl ?_
  refine J.iload_n 1 d_M_written_185 rfl rfl ?_
  refine J.dup2 d_M_written_186 rfl (jr_cat _ _) ?_
  obtain ⟨x20, ex20, g, h⟩ := jld_some h
  refine J.il hG d_M_written_187 g ex20 ?_
  refine J.iconst (v := (1 : Int32)) d_M_written_188 ki_1 ?_
  refine J.iload 3 d_M_written_189 rfl ?_
  refine J.ishl d_M_written_191 ?_
  refine J.nop (pc' := 192) rfl ?_
  refine J.ior d_M_written_192 ?_
  obtain ⟨m21, hm21, g, h⟩ := jst_some h
  refine J.is hG d_M_written_193 g hm21 ?_
  refine J.aload_n 0 d_M_written_194 rfl rfl ?_
  refine J.getF (n := 136) hG d_M_written_195 fl_M_93 ck_109_54 rfl ?_
  refine J.bipush (v := (30 : Int32)) d_M_written_198 kb_30 ?_
  refine J.iload_n 1 d_M_written_200 rfl rfl ?_
  refine J.imul d_M_written_201 ?_
  refine J.iload 3 d_M_written_202 rfl ?_
  refine J.nop (pc' := 204) rfl ?_
  refine J.iadd d_M_written_204 ?_
  refine J.aload_n 0 d_M_written_205 rfl rfl ?_
  refine J.getI hG d_M_written_206 fl_M_295 ck_109_31 ?_
  obtain ⟨m22, hm22, g, h⟩ := jst_some h
  refine J.is hG d_M_written_209 g hm22 ?_
  refine J.iconst (v := (0 : Int32)) d_M_written_210 ki_0 ?_
  refine J.istore (lv := [(7, .int (0 : Int32)), (0, jr G 109), (1, .int v1), (2, .int v2), (6, .int (m 109 33))]) d_M_written_211 (by decide) rfl ?_
  refine J.sub (ls' := [(0, jr G 109), (1, .int v1), (2, .int v2), (6, .int (m 109 33)), (7, .int (0 : Int32))]) [1, 2, 3, 4, 0] rfl ?_
  refine jlp_M_written_213 hG v1 v2 (m 109 33) _ ?_ _ (0 : Int32) m22 _ h
  intro m25 r h
  cases h
  exact J.vret d_M_written_245 rfl rfl

def f_M_hasRoom (v1 : Int32) (m : jMem) : Option (Int32 × jMem) :=
  if (30 : Int32) ≤ (m 109 33) then
    some ((0 : Int32), m)
  else
    jbd (f_M_bits v1 m) fun x1 m2 =>
    if (150 : Int32) < ((m 109 44) + x1) then
      some ((0 : Int32), m2)
    else
      some ((1 : Int32), m2)
theorem c_M_hasRoom {G : jG} (hG : jFul G) {v1 : Int32} {m : jMem} {r : (Int32 × jMem)} (h : f_M_hasRoom v1 m = some r) : jCt G Y_M_hasRoom [jr G 109, .int v1] m (jri r) := by
  refine jCt.ov (ls := [(0, jr G 109), (1, .int v1)]) mi_M_hasRoom (jAvR (jAvI jAvN)) (Nat.le_of_ble_eq_true rfl) ?_ ⟨rfl, rfl⟩
  unfold f_M_hasRoom at h
  refine J.aload_n 0 d_M_hasRoom_0 rfl rfl ?_
  refine J.getI hG d_M_hasRoom_1 fl_M_277 ck_109_33 ?_
  refine J.bipush (v := (30 : Int32)) d_M_hasRoom_4 kb_30 ?_
  refine J.icmp_ge 28 d_M_hasRoom_6 rfl (fun c => ?_) (fun c => ?_)
  · rw [if_pos c] at h
    refine J.iconst (v := (0 : Int32)) d_M_hasRoom_28 ki_0 ?_
    cases h
    exact J.iret d_M_hasRoom_29 rfl rfl rfl
  · rw [if_neg c] at h
    refine J.aload_n 0 d_M_hasRoom_9 rfl rfl ?_
    refine J.getI hG d_M_hasRoom_10 fl_M_292 ck_109_44 ?_
    refine J.iload_n 1 d_M_hasRoom_13 rfl rfl ?_
    obtain ⟨x1, m2, zm2, h⟩ := jbd_some h
    refine J.cSi Y_M_bits (As := [.int v1]) (rest := [.int (m 109 44)]) d_M_hasRoom_14 mi_M_bits ms_M_bits lk_M_306 ⟨rfl, rfl, Nat.le_of_ble_eq_true rfl⟩ (c_M_bits hG zm2) rfl (Nat.le_trans (jcI jcN) (Nat.le_of_ble_eq_true rfl)) ?_
    refine J.nop (pc' := 17) rfl ?_
    refine J.iadd d_M_hasRoom_17 ?_
    refine J.sipush (v := (150 : Int32)) d_M_hasRoom_18 ks_150 ?_
    refine J.icmp_gt 28 d_M_hasRoom_21 rfl (fun c => ?_) (fun c => ?_)
    · rw [if_pos c] at h
      refine J.iconst (v := (0 : Int32)) d_M_hasRoom_28 ki_0 ?_
      cases h
      exact J.iret d_M_hasRoom_29 rfl rfl rfl
    · rw [if_neg c] at h
      refine J.iconst (v := (1 : Int32)) d_M_hasRoom_24 ki_1 ?_
      refine J.goto 29 d_M_hasRoom_25 rfl ?_
      cases h
      exact J.iret d_M_hasRoom_29 rfl rfl rfl

def f_M_isKnown (v1 : Int32) (v2 : Int32) (m : jMem) : Option (Int32 × jMem) :=
  jbd (f_M_isLetter v2 m) fun x1 m2 =>
  if x1 = 0 then
    some ((0 : Int32), m2)
  else
    jld 1 m2 135 v1 fun x3 =>
    if ((x3 >>> (v2 &&& 31)) &&& (1 : Int32)) = (1 : Int32) then
      some ((1 : Int32), m2)
    else
      some ((0 : Int32), m2)
theorem c_M_isKnown {G : jG} (hG : jFul G) {v1 : Int32} {v2 : Int32} {m : jMem} {r : (Int32 × jMem)} (h : f_M_isKnown v1 v2 m = some r) : jCt G Y_M_isKnown [jr G 109, .int v1, .int v2] m (jri r) := by
  refine jCt.ov (ls := [(0, jr G 109), (1, .int v1), (2, .int v2)]) mi_M_isKnown (jAvR (jAvI (jAvI jAvN))) (Nat.le_of_ble_eq_true rfl) ?_ ⟨rfl, rfl⟩
  unfold f_M_isKnown at h
  refine J.aload_n 0 d_M_isKnown_0 rfl rfl ?_
  refine J.iload_n 2 d_M_isKnown_1 rfl rfl ?_
  obtain ⟨x1, m2, zm2, h⟩ := jbd_some h
  refine J.cVi Y_M_isLetter (As := [.int v2]) (rest := []) hG d_M_isKnown_2 mi_M_isLetter mv_M_isLetter lk_M_309 ⟨rfl, rfl, Nat.le_of_ble_eq_true rfl⟩ cq_109 cc_10 (c_M_isLetter hG zm2) rfl (Nat.le_trans jcN (Nat.le_of_ble_eq_true rfl)) ?_
  refine J.if_eq 26 d_M_isKnown_5 rfl (fun c => ?_) (fun c => ?_)
  · rw [if_pos c] at h
    refine J.iconst (v := (0 : Int32)) d_M_isKnown_26 ki_0 ?_
    cases h
    exact J.iret d_M_isKnown_27 rfl rfl rfl
  · rw [if_neg c] at h
    refine J.aload_n 0 d_M_isKnown_8 rfl rfl ?_
    refine J.getF (n := 135) hG d_M_isKnown_9 fl_M_90 ck_109_53 rfl ?_
    refine J.iload_n 1 d_M_isKnown_12 rfl rfl ?_
    obtain ⟨x3, ex3, g, h⟩ := jld_some h
    refine J.il hG d_M_isKnown_13 g ex3 ?_
    refine J.nop (pc' := 14) rfl ?_
    refine J.iload_n 2 d_M_isKnown_14 rfl rfl ?_
    refine J.ishr d_M_isKnown_15 ?_
    refine J.iconst (v := (1 : Int32)) d_M_isKnown_16 ki_1 ?_
    refine J.iand d_M_isKnown_17 ?_
    refine J.iconst (v := (1 : Int32)) d_M_isKnown_18 ki_1 ?_
    refine J.icmp_ne 26 d_M_isKnown_19 rfl (fun c => ?_) (fun c => ?_)
    · rw [if_neg c] at h
      refine J.iconst (v := (0 : Int32)) d_M_isKnown_26 ki_0 ?_
      cases h
      exact J.iret d_M_isKnown_27 rfl rfl rfl
    · rw [if_pos c] at h
      refine J.iconst (v := (1 : Int32)) d_M_isKnown_22 ki_1 ?_
      refine J.goto 27 d_M_isKnown_23 rfl ?_
      cases h
      exact J.iret d_M_isKnown_27 rfl rfl rfl

def f_M_write (v1 : Int32) (v2 : Int32) (v3 : Int32) (v4 : Int32) (v5 : Int32) (m : jMem) : Option (Int32 × jMem) :=
  jpu m 109 0 (0 : Int32) fun m1 =>
  jbd (f_M_isWriter v1 m1) fun x2 m3 =>
  if x2 = 0 then
    some ((-1 : Int32), m3)
  else
    if v2 < (1 : Int32) then
      some ((-1 : Int32), m3)
    else
      if (63 : Int32) < v2 then
        some ((-1 : Int32), m3)
      else
        if ((v2 >>> (v1 &&& 31)) &&& (1 : Int32)) = (1 : Int32) then
          some ((-1 : Int32), m3)
        else
          if v3 < 0 then
            some ((-1 : Int32), m3)
          else
            if v3 ≤ (2 : Int32) then
              if v4 = (-1 : Int32) then
                if v5 = (-1 : Int32) then
                  if v3 = (2 : Int32) then
                    if v4 = (-1 : Int32) then
                      some ((-1 : Int32), m3)
                    else
                      if v5 = (-1 : Int32) then
                        jld 1 m3 121 v4 fun x30 =>
                        if x30 = v1 then
                          jbd (f_M_hasRoom v2 m3) fun x31 m32 =>
                          if x31 = 0 then
                            some ((-1 : Int32), m32)
                          else
                            jbd (f_M_written v1 v2 v3 v4 v5 m32) fun u33 m34 =>
                            some (((m34 109 33) - (1 : Int32)), m34)
                        else
                          some ((-1 : Int32), m3)
                      else
                        some ((-1 : Int32), m3)
                  else
                    jbd (f_M_hasRoom v2 m3) fun x26 m27 =>
                    if x26 = 0 then
                      some ((-1 : Int32), m27)
                    else
                      jbd (f_M_written v1 v2 v3 v4 v5 m27) fun u28 m29 =>
                      some (((m29 109 33) - (1 : Int32)), m29)
                else
                  some ((-1 : Int32), m3)
              else
                jbd (f_M_isKnown v1 v4 m3) fun x4 m5 =>
                if x4 = 0 then
                  some ((-1 : Int32), m5)
                else
                  if v5 = v4 then
                    some ((-1 : Int32), m5)
                  else
                    if v5 = (-1 : Int32) then
                      if v3 = (2 : Int32) then
                        if v4 = (-1 : Int32) then
                          some ((-1 : Int32), m5)
                        else
                          if v5 = (-1 : Int32) then
                            jld 1 m5 121 v4 fun x10 =>
                            if x10 = v1 then
                              jbd (f_M_hasRoom v2 m5) fun x11 m12 =>
                              if x11 = 0 then
                                some ((-1 : Int32), m12)
                              else
                                jbd (f_M_written v1 v2 v3 v4 v5 m12) fun u13 m14 =>
                                some (((m14 109 33) - (1 : Int32)), m14)
                            else
                              some ((-1 : Int32), m5)
                          else
                            some ((-1 : Int32), m5)
                      else
                        jbd (f_M_hasRoom v2 m5) fun x6 m7 =>
                        if x6 = 0 then
                          some ((-1 : Int32), m7)
                        else
                          jbd (f_M_written v1 v2 v3 v4 v5 m7) fun u8 m9 =>
                          some (((m9 109 33) - (1 : Int32)), m9)
                    else
                      jbd (f_M_isKnown v1 v5 m5) fun x15 m16 =>
                      if x15 = 0 then
                        some ((-1 : Int32), m16)
                      else
                        if v3 = (2 : Int32) then
                          if v4 = (-1 : Int32) then
                            some ((-1 : Int32), m16)
                          else
                            if v5 = (-1 : Int32) then
                              jld 1 m16 121 v4 fun x21 =>
                              if x21 = v1 then
                                jbd (f_M_hasRoom v2 m16) fun x22 m23 =>
                                if x22 = 0 then
                                  some ((-1 : Int32), m23)
                                else
                                  jbd (f_M_written v1 v2 v3 v4 v5 m23) fun u24 m25 =>
                                  some (((m25 109 33) - (1 : Int32)), m25)
                              else
                                some ((-1 : Int32), m16)
                            else
                              some ((-1 : Int32), m16)
                        else
                          jbd (f_M_hasRoom v2 m16) fun x17 m18 =>
                          if x17 = 0 then
                            some ((-1 : Int32), m18)
                          else
                            jbd (f_M_written v1 v2 v3 v4 v5 m18) fun u19 m20 =>
                            some (((m20 109 33) - (1 : Int32)), m20)
            else
              some ((-1 : Int32), m3)
theorem c_M_write {G : jG} (hG : jFul G) {v1 : Int32} {v2 : Int32} {v3 : Int32} {v4 : Int32} {v5 : Int32} {m : jMem} {r : (Int32 × jMem)} (h : f_M_write v1 v2 v3 v4 v5 m = some r) : jCt G Y_M_write [jr G 109, .int v1, .int v2, .int v3, .int v4, .int v5] m (jri r) := by
  refine jCt.ov (ls := [(0, jr G 109), (1, .int v1), (2, .int v2), (3, .int v3), (4, .int v4), (5, .int v5)]) mi_M_write (jAvR (jAvI (jAvI (jAvI (jAvI (jAvI jAvN)))))) (Nat.le_of_ble_eq_true rfl) ?_ ⟨rfl, rfl⟩
  unfold f_M_write at h
  refine J.aload_n 0 d_M_write_0 rfl rfl ?_
  refine J.iconst (v := (0 : Int32)) d_M_write_1 ki_0 ?_
  obtain ⟨m1, hm1, h⟩ := jpu_some h
  refine J.putI hG d_M_write_2 fl_M_132 fp_10_0 ck_109_0 hm1 ?_
  refine J.iload_n 1 d_M_write_5 rfl rfl ?_
  obtain ⟨x2, m3, zm3, h⟩ := jbd_some h
  refine J.cSi Y_M_isWriter (As := [.int v1]) (rest := []) d_M_write_6 mi_M_isWriter ms_M_isWriter lk_M_280 ⟨rfl, rfl, Nat.le_of_ble_eq_true rfl⟩ (c_M_isWriter hG zm3) rfl (Nat.le_trans jcN (Nat.le_of_ble_eq_true rfl)) ?_
  refine J.if_eq 41 d_M_write_9 rfl (fun c => ?_) (fun c => ?_)
  · rw [if_pos c] at h
    refine J.iconst (v := (-1 : Int32)) d_M_write_41 ki_m1 ?_
    cases h
    exact J.iret d_M_write_42 rfl (vp_nar_int _) rfl
  · rw [if_neg c] at h
    refine J.iload_n 2 d_M_write_12 rfl rfl ?_
    refine J.iconst (v := (1 : Int32)) d_M_write_13 ki_1 ?_
    refine J.nop (pc' := 14) rfl ?_
    refine J.icmp_lt 41 d_M_write_14 rfl (fun c => ?_) (fun c => ?_)
    · rw [if_pos c] at h
      refine J.iconst (v := (-1 : Int32)) d_M_write_41 ki_m1 ?_
      cases h
      exact J.iret d_M_write_42 rfl (vp_nar_int _) rfl
    · rw [if_neg c] at h
      refine J.iload_n 2 d_M_write_17 rfl rfl ?_
      refine J.bipush (v := (63 : Int32)) d_M_write_18 kb_63 ?_
      refine J.icmp_gt 41 d_M_write_20 rfl (fun c => ?_) (fun c => ?_)
      · rw [if_pos c] at h
        refine J.iconst (v := (-1 : Int32)) d_M_write_41 ki_m1 ?_
        cases h
        exact J.iret d_M_write_42 rfl (vp_nar_int _) rfl
      · rw [if_neg c] at h
        refine J.iload_n 2 d_M_write_23 rfl rfl ?_
        refine J.iload_n 1 d_M_write_24 rfl rfl ?_
        refine J.ishr d_M_write_25 ?_
        refine J.iconst (v := (1 : Int32)) d_M_write_26 ki_1 ?_
        refine J.nop (pc' := 27) rfl ?_
        refine J.iand d_M_write_27 ?_
        refine J.iconst (v := (1 : Int32)) d_M_write_28 ki_1 ?_
        refine J.icmp_eq 41 d_M_write_29 rfl (fun c => ?_) (fun c => ?_)
        · rw [if_pos c] at h
          refine J.iconst (v := (-1 : Int32)) d_M_write_41 ki_m1 ?_
          cases h
          exact J.iret d_M_write_42 rfl (vp_nar_int _) rfl
        · rw [if_neg c] at h
          refine J.iload_n 3 d_M_write_32 rfl rfl ?_
          refine J.if_lt 41 d_M_write_33 rfl (fun c => ?_) (fun c => ?_)
          · rw [if_pos c] at h
            refine J.iconst (v := (-1 : Int32)) d_M_write_41 ki_m1 ?_
            cases h
            exact J.iret d_M_write_42 rfl (vp_nar_int _) rfl
          · rw [if_neg c] at h
            refine J.iload_n 3 d_M_write_36 rfl rfl ?_
            refine J.iconst (v := (2 : Int32)) d_M_write_37 ki_2 ?_
            refine J.icmp_le 43 d_M_write_38 rfl (fun c => ?_) (fun c => ?_)
            · rw [if_pos c] at h
              refine J.iload 4 d_M_write_43 rfl ?_
              refine J.iconst (v := (-1 : Int32)) d_M_write_45 ki_m1 ?_
              refine J.icmp_ne 58 d_M_write_46 rfl (fun c => ?_) (fun c => ?_)
              · rw [if_neg c] at h
                refine J.aload_n 0 d_M_write_58 rfl rfl ?_
                refine J.iload_n 1 d_M_write_59 rfl rfl ?_
                refine J.iload 4 d_M_write_60 rfl ?_
                obtain ⟨x4, m5, zm5, h⟩ := jbd_some h
                refine J.cVi Y_M_isKnown (As := [.int v1, .int v4]) (rest := []) hG d_M_write_62 mi_M_isKnown mv_M_isKnown lk_M_312 ⟨rfl, rfl, Nat.le_of_ble_eq_true rfl⟩ cq_109 cc_10 (c_M_isKnown hG zm5) rfl (Nat.le_trans jcN (Nat.le_of_ble_eq_true rfl)) ?_
                refine J.if_eq 91 d_M_write_65 rfl (fun c => ?_) (fun c => ?_)
                · rw [if_pos c] at h
                  refine J.iconst (v := (-1 : Int32)) d_M_write_91 ki_m1 ?_
                  cases h
                  exact J.iret d_M_write_92 rfl (vp_nar_int _) rfl
                · rw [if_neg c] at h
                  refine J.iload 5 d_M_write_68 rfl ?_
                  refine J.iload 4 d_M_write_70 rfl ?_
                  refine J.icmp_eq 91 d_M_write_72 rfl (fun c => ?_) (fun c => ?_)
                  · rw [if_pos c] at h
                    refine J.iconst (v := (-1 : Int32)) d_M_write_91 ki_m1 ?_
                    cases h
                    exact J.iret d_M_write_92 rfl (vp_nar_int _) rfl
                  · rw [if_neg c] at h
                    refine J.nop (pc' := 75) rfl ?_
                    refine J.iload 5 d_M_write_75 rfl ?_
                    refine J.iconst (v := (-1 : Int32)) d_M_write_77 ki_m1 ?_
                    refine J.icmp_eq 93 d_M_write_78 rfl (fun c => ?_) (fun c => ?_)
                    · rw [if_pos c] at h
                      refine J.iload_n 3 d_M_write_93 rfl rfl ?_
                      refine J.iconst (v := (2 : Int32)) d_M_write_94 ki_2 ?_
                      refine J.icmp_ne 121 d_M_write_95 rfl (fun c => ?_) (fun c => ?_)
                      · rw [if_neg c] at h
                        refine J.aload_n 0 d_M_write_121 rfl rfl ?_
                        refine J.iload_n 2 d_M_write_122 rfl rfl ?_
                        obtain ⟨x6, m7, zm7, h⟩ := jbd_some h
                        refine J.cVi Y_M_hasRoom (As := [.int v2]) (rest := []) hG d_M_write_123 mi_M_hasRoom mv_M_hasRoom lk_M_316 ⟨rfl, rfl, Nat.le_of_ble_eq_true rfl⟩ cq_109 cc_10 (c_M_hasRoom hG zm7) rfl (Nat.le_trans jcN (Nat.le_of_ble_eq_true rfl)) ?_
                        refine J.if_ne 131 d_M_write_126 rfl (fun c => ?_) (fun c => ?_)
                        · rw [if_neg c] at h
                          refine J.aload_n 0 d_M_write_131 rfl rfl ?_
                          refine J.iload_n 1 d_M_write_132 rfl rfl ?_
                          refine J.iload_n 2 d_M_write_133 rfl rfl ?_
                          refine J.iload_n 3 d_M_write_134 rfl rfl ?_
                          refine J.iload 4 d_M_write_135 rfl ?_
                          refine J.iload 5 d_M_write_137 rfl ?_
                          obtain ⟨u8, m9, zm9, h⟩ := jbd_some h
                          refine J.cVv Y_M_written (As := [.int v1, .int v2, .int v3, .int v4, .int v5]) (rest := []) hG d_M_write_139 mi_M_written mv_M_written lk_M_319 ⟨rfl, rfl, Nat.le_of_ble_eq_true rfl⟩ cq_109 cc_10 (c_M_written hG zm9) rfl (Nat.le_trans jcN (Nat.le_of_ble_eq_true rfl)) ?_
                          refine J.aload_n 0 d_M_write_142 rfl rfl ?_
                          refine J.nop (pc' := 143) rfl ?_
                          refine J.getI hG d_M_write_143 fl_M_277 ck_109_33 ?_
                          refine J.iconst (v := (1 : Int32)) d_M_write_146 ki_1 ?_
                          refine J.isub d_M_write_147 ?_
                          cases h
                          exact J.iret d_M_write_148 rfl (vp_nar_int _) rfl
                        · rw [if_pos c] at h
                          refine J.iconst (v := (-1 : Int32)) d_M_write_129 ki_m1 ?_
                          cases h
                          exact J.iret d_M_write_130 rfl (vp_nar_int _) rfl
                      · rw [if_pos c] at h
                        refine J.iload 4 d_M_write_98 rfl ?_
                        refine J.iconst (v := (-1 : Int32)) d_M_write_100 ki_m1 ?_
                        refine J.icmp_eq 129 d_M_write_101 rfl (fun c => ?_) (fun c => ?_)
                        · rw [if_pos c] at h
                          refine J.iconst (v := (-1 : Int32)) d_M_write_129 ki_m1 ?_
                          cases h
                          exact J.iret d_M_write_130 rfl (vp_nar_int _) rfl
                        · rw [if_neg c] at h
                          refine J.iload 5 d_M_write_104 rfl ?_
                          refine J.iconst (v := (-1 : Int32)) d_M_write_106 ki_m1 ?_
                          refine J.nop (pc' := 107) rfl ?_
                          refine J.icmp_ne 129 d_M_write_107 rfl (fun c => ?_) (fun c => ?_)
                          · rw [if_neg c] at h
                            refine J.iconst (v := (-1 : Int32)) d_M_write_129 ki_m1 ?_
                            cases h
                            exact J.iret d_M_write_130 rfl (vp_nar_int _) rfl
                          · rw [if_pos c] at h
                            refine J.aload_n 0 d_M_write_110 rfl rfl ?_
                            refine J.getF (n := 121) hG d_M_write_111 fl_M_48 ck_109_34 rfl ?_
                            refine J.iload 4 d_M_write_114 rfl ?_
                            obtain ⟨x10, ex10, g, h⟩ := jld_some h
                            refine J.il hG d_M_write_116 g ex10 ?_
                            refine J.iload_n 1 d_M_write_117 rfl rfl ?_
                            refine J.icmp_ne 129 d_M_write_118 rfl (fun c => ?_) (fun c => ?_)
                            · rw [if_neg c] at h
                              refine J.iconst (v := (-1 : Int32)) d_M_write_129 ki_m1 ?_
                              cases h
                              exact J.iret d_M_write_130 rfl (vp_nar_int _) rfl
                            · rw [if_pos c] at h
                              refine J.aload_n 0 d_M_write_121 rfl rfl ?_
                              refine J.nop (pc' := 122) rfl ?_
                              refine J.iload_n 2 d_M_write_122 rfl rfl ?_
                              obtain ⟨x11, m12, zm12, h⟩ := jbd_some h
                              refine J.cVi Y_M_hasRoom (As := [.int v2]) (rest := []) hG d_M_write_123 mi_M_hasRoom mv_M_hasRoom lk_M_316 ⟨rfl, rfl, Nat.le_of_ble_eq_true rfl⟩ cq_109 cc_10 (c_M_hasRoom hG zm12) rfl (Nat.le_trans jcN (Nat.le_of_ble_eq_true rfl)) ?_
                              refine J.if_ne 131 d_M_write_126 rfl (fun c => ?_) (fun c => ?_)
                              · rw [if_neg c] at h
                                refine J.aload_n 0 d_M_write_131 rfl rfl ?_
                                refine J.iload_n 1 d_M_write_132 rfl rfl ?_
                                refine J.iload_n 2 d_M_write_133 rfl rfl ?_
                                refine J.iload_n 3 d_M_write_134 rfl rfl ?_
                                refine J.iload 4 d_M_write_135 rfl ?_
                                refine J.iload 5 d_M_write_137 rfl ?_
                                obtain ⟨u13, m14, zm14, h⟩ := jbd_some h
                                refine J.cVv Y_M_written (As := [.int v1, .int v2, .int v3, .int v4, .int v5]) (rest := []) hG d_M_write_139 mi_M_written mv_M_written lk_M_319 ⟨rfl, rfl, Nat.le_of_ble_eq_true rfl⟩ cq_109 cc_10 (c_M_written hG zm14) rfl (Nat.le_trans jcN (Nat.le_of_ble_eq_true rfl)) ?_
                                refine J.aload_n 0 d_M_write_142 rfl rfl ?_
                                refine J.nop (pc' := 143) rfl ?_
                                refine J.getI hG d_M_write_143 fl_M_277 ck_109_33 ?_
                                refine J.iconst (v := (1 : Int32)) d_M_write_146 ki_1 ?_
                                refine J.isub d_M_write_147 ?_
                                cases h
                                exact J.iret d_M_write_148 rfl (vp_nar_int _) rfl
                              · rw [if_pos c] at h
                                refine J.iconst (v := (-1 : Int32)) d_M_write_129 ki_m1 ?_
                                cases h
                                exact J.iret d_M_write_130 rfl (vp_nar_int _) rfl
                    · rw [if_neg c] at h
                      refine J.aload_n 0 d_M_write_81 rfl rfl ?_
                      refine J.iload_n 1 d_M_write_82 rfl rfl ?_
                      refine J.iload 5 d_M_write_83 rfl ?_
                      obtain ⟨x15, m16, zm16, h⟩ := jbd_some h
                      refine J.cVi Y_M_isKnown (As := [.int v1, .int v5]) (rest := []) hG d_M_write_85 mi_M_isKnown mv_M_isKnown lk_M_312 ⟨rfl, rfl, Nat.le_of_ble_eq_true rfl⟩ cq_109 cc_10 (c_M_isKnown hG zm16) rfl (Nat.le_trans jcN (Nat.le_of_ble_eq_true rfl)) ?_
                      refine J.if_ne 93 d_M_write_88 rfl (fun c => ?_) (fun c => ?_)
                      · rw [if_neg c] at h
                        refine J.iload_n 3 d_M_write_93 rfl rfl ?_
                        refine J.iconst (v := (2 : Int32)) d_M_write_94 ki_2 ?_
                        refine J.icmp_ne 121 d_M_write_95 rfl (fun c => ?_) (fun c => ?_)
                        · rw [if_neg c] at h
                          refine J.aload_n 0 d_M_write_121 rfl rfl ?_
                          refine J.iload_n 2 d_M_write_122 rfl rfl ?_
                          obtain ⟨x17, m18, zm18, h⟩ := jbd_some h
                          refine J.cVi Y_M_hasRoom (As := [.int v2]) (rest := []) hG d_M_write_123 mi_M_hasRoom mv_M_hasRoom lk_M_316 ⟨rfl, rfl, Nat.le_of_ble_eq_true rfl⟩ cq_109 cc_10 (c_M_hasRoom hG zm18) rfl (Nat.le_trans jcN (Nat.le_of_ble_eq_true rfl)) ?_
                          refine J.if_ne 131 d_M_write_126 rfl (fun c => ?_) (fun c => ?_)
                          · rw [if_neg c] at h
                            refine J.aload_n 0 d_M_write_131 rfl rfl ?_
                            refine J.iload_n 1 d_M_write_132 rfl rfl ?_
                            refine J.iload_n 2 d_M_write_133 rfl rfl ?_
                            refine J.iload_n 3 d_M_write_134 rfl rfl ?_
                            refine J.iload 4 d_M_write_135 rfl ?_
                            refine J.iload 5 d_M_write_137 rfl ?_
                            obtain ⟨u19, m20, zm20, h⟩ := jbd_some h
                            refine J.cVv Y_M_written (As := [.int v1, .int v2, .int v3, .int v4, .int v5]) (rest := []) hG d_M_write_139 mi_M_written mv_M_written lk_M_319 ⟨rfl, rfl, Nat.le_of_ble_eq_true rfl⟩ cq_109 cc_10 (c_M_written hG zm20) rfl (Nat.le_trans jcN (Nat.le_of_ble_eq_true rfl)) ?_
                            refine J.aload_n 0 d_M_write_142 rfl rfl ?_
                            refine J.nop (pc' := 143) rfl ?_
                            refine J.getI hG d_M_write_143 fl_M_277 ck_109_33 ?_
                            refine J.iconst (v := (1 : Int32)) d_M_write_146 ki_1 ?_
                            refine J.isub d_M_write_147 ?_
                            cases h
                            exact J.iret d_M_write_148 rfl (vp_nar_int _) rfl
                          · rw [if_pos c] at h
                            refine J.iconst (v := (-1 : Int32)) d_M_write_129 ki_m1 ?_
                            cases h
                            exact J.iret d_M_write_130 rfl (vp_nar_int _) rfl
                        · rw [if_pos c] at h
                          refine J.iload 4 d_M_write_98 rfl ?_
                          refine J.iconst (v := (-1 : Int32)) d_M_write_100 ki_m1 ?_
                          refine J.icmp_eq 129 d_M_write_101 rfl (fun c => ?_) (fun c => ?_)
                          · rw [if_pos c] at h
                            refine J.iconst (v := (-1 : Int32)) d_M_write_129 ki_m1 ?_
                            cases h
                            exact J.iret d_M_write_130 rfl (vp_nar_int _) rfl
                          · rw [if_neg c] at h
                            refine J.iload 5 d_M_write_104 rfl ?_
                            refine J.iconst (v := (-1 : Int32)) d_M_write_106 ki_m1 ?_
                            refine J.nop (pc' := 107) rfl ?_
                            refine J.icmp_ne 129 d_M_write_107 rfl (fun c => ?_) (fun c => ?_)
                            · rw [if_neg c] at h
                              refine J.iconst (v := (-1 : Int32)) d_M_write_129 ki_m1 ?_
                              cases h
                              exact J.iret d_M_write_130 rfl (vp_nar_int _) rfl
                            · rw [if_pos c] at h
                              refine J.aload_n 0 d_M_write_110 rfl rfl ?_
                              refine J.getF (n := 121) hG d_M_write_111 fl_M_48 ck_109_34 rfl ?_
                              refine J.iload 4 d_M_write_114 rfl ?_
                              obtain ⟨x21, ex21, g, h⟩ := jld_some h
                              refine J.il hG d_M_write_116 g ex21 ?_
                              refine J.iload_n 1 d_M_write_117 rfl rfl ?_
                              refine J.icmp_ne 129 d_M_write_118 rfl (fun c => ?_) (fun c => ?_)
                              · rw [if_neg c] at h
                                refine J.iconst (v := (-1 : Int32)) d_M_write_129 ki_m1 ?_
                                cases h
                                exact J.iret d_M_write_130 rfl (vp_nar_int _) rfl
                              · rw [if_pos c] at h
                                refine J.aload_n 0 d_M_write_121 rfl rfl ?_
                                refine J.nop (pc' := 122) rfl ?_
                                refine J.iload_n 2 d_M_write_122 rfl rfl ?_
                                obtain ⟨x22, m23, zm23, h⟩ := jbd_some h
                                refine J.cVi Y_M_hasRoom (As := [.int v2]) (rest := []) hG d_M_write_123 mi_M_hasRoom mv_M_hasRoom lk_M_316 ⟨rfl, rfl, Nat.le_of_ble_eq_true rfl⟩ cq_109 cc_10 (c_M_hasRoom hG zm23) rfl (Nat.le_trans jcN (Nat.le_of_ble_eq_true rfl)) ?_
                                refine J.if_ne 131 d_M_write_126 rfl (fun c => ?_) (fun c => ?_)
                                · rw [if_neg c] at h
                                  refine J.aload_n 0 d_M_write_131 rfl rfl ?_
                                  refine J.iload_n 1 d_M_write_132 rfl rfl ?_
                                  refine J.iload_n 2 d_M_write_133 rfl rfl ?_
                                  refine J.iload_n 3 d_M_write_134 rfl rfl ?_
                                  refine J.iload 4 d_M_write_135 rfl ?_
                                  refine J.iload 5 d_M_write_137 rfl ?_
                                  obtain ⟨u24, m25, zm25, h⟩ := jbd_some h
                                  refine J.cVv Y_M_written (As := [.int v1, .int v2, .int v3, .int v4, .int v5]) (rest := []) hG d_M_write_139 mi_M_written mv_M_written lk_M_319 ⟨rfl, rfl, Nat.le_of_ble_eq_true rfl⟩ cq_109 cc_10 (c_M_written hG zm25) rfl (Nat.le_trans jcN (Nat.le_of_ble_eq_true rfl)) ?_
                                  refine J.aload_n 0 d_M_write_142 rfl rfl ?_
                                  refine J.nop (pc' := 143) rfl ?_
                                  refine J.getI hG d_M_write_143 fl_M_277 ck_109_33 ?_
                                  refine J.iconst (v := (1 : Int32)) d_M_write_146 ki_1 ?_
                                  refine J.isub d_M_write_147 ?_
                                  cases h
                                  exact J.iret d_M_write_148 rfl (vp_nar_int _) rfl
                                · rw [if_pos c] at h
                                  refine J.iconst (v := (-1 : Int32)) d_M_write_129 ki_m1 ?_
                                  cases h
                                  exact J.iret d_M_write_130 rfl (vp_nar_int _) rfl
                      · rw [if_pos c] at h
                        refine J.nop (pc' := 91) rfl ?_
                        refine J.iconst (v := (-1 : Int32)) d_M_write_91 ki_m1 ?_
                        cases h
                        exact J.iret d_M_write_92 rfl (vp_nar_int _) rfl
              · rw [if_pos c] at h
                refine J.iload 5 d_M_write_49 rfl ?_
                refine J.iconst (v := (-1 : Int32)) d_M_write_51 ki_m1 ?_
                refine J.icmp_eq 93 d_M_write_52 rfl (fun c => ?_) (fun c => ?_)
                · rw [if_pos c] at h
                  refine J.iload_n 3 d_M_write_93 rfl rfl ?_
                  refine J.iconst (v := (2 : Int32)) d_M_write_94 ki_2 ?_
                  refine J.icmp_ne 121 d_M_write_95 rfl (fun c => ?_) (fun c => ?_)
                  · rw [if_neg c] at h
                    refine J.aload_n 0 d_M_write_121 rfl rfl ?_
                    refine J.iload_n 2 d_M_write_122 rfl rfl ?_
                    obtain ⟨x26, m27, zm27, h⟩ := jbd_some h
                    refine J.cVi Y_M_hasRoom (As := [.int v2]) (rest := []) hG d_M_write_123 mi_M_hasRoom mv_M_hasRoom lk_M_316 ⟨rfl, rfl, Nat.le_of_ble_eq_true rfl⟩ cq_109 cc_10 (c_M_hasRoom hG zm27) rfl (Nat.le_trans jcN (Nat.le_of_ble_eq_true rfl)) ?_
                    refine J.if_ne 131 d_M_write_126 rfl (fun c => ?_) (fun c => ?_)
                    · rw [if_neg c] at h
                      refine J.aload_n 0 d_M_write_131 rfl rfl ?_
                      refine J.iload_n 1 d_M_write_132 rfl rfl ?_
                      refine J.iload_n 2 d_M_write_133 rfl rfl ?_
                      refine J.iload_n 3 d_M_write_134 rfl rfl ?_
                      refine J.iload 4 d_M_write_135 rfl ?_
                      refine J.iload 5 d_M_write_137 rfl ?_
                      obtain ⟨u28, m29, zm29, h⟩ := jbd_some h
                      refine J.cVv Y_M_written (As := [.int v1, .int v2, .int v3, .int v4, .int v5]) (rest := []) hG d_M_write_139 mi_M_written mv_M_written lk_M_319 ⟨rfl, rfl, Nat.le_of_ble_eq_true rfl⟩ cq_109 cc_10 (c_M_written hG zm29) rfl (Nat.le_trans jcN (Nat.le_of_ble_eq_true rfl)) ?_
                      refine J.aload_n 0 d_M_write_142 rfl rfl ?_
                      refine J.nop (pc' := 143) rfl ?_
                      refine J.getI hG d_M_write_143 fl_M_277 ck_109_33 ?_
                      refine J.iconst (v := (1 : Int32)) d_M_write_146 ki_1 ?_
                      refine J.isub d_M_write_147 ?_
                      cases h
                      exact J.iret d_M_write_148 rfl (vp_nar_int _) rfl
                    · rw [if_pos c] at h
                      refine J.iconst (v := (-1 : Int32)) d_M_write_129 ki_m1 ?_
                      cases h
                      exact J.iret d_M_write_130 rfl (vp_nar_int _) rfl
                  · rw [if_pos c] at h
                    refine J.iload 4 d_M_write_98 rfl ?_
                    refine J.iconst (v := (-1 : Int32)) d_M_write_100 ki_m1 ?_
                    refine J.icmp_eq 129 d_M_write_101 rfl (fun c => ?_) (fun c => ?_)
                    · rw [if_pos c] at h
                      refine J.iconst (v := (-1 : Int32)) d_M_write_129 ki_m1 ?_
                      cases h
                      exact J.iret d_M_write_130 rfl (vp_nar_int _) rfl
                    · rw [if_neg c] at h
                      refine J.iload 5 d_M_write_104 rfl ?_
                      refine J.iconst (v := (-1 : Int32)) d_M_write_106 ki_m1 ?_
                      refine J.nop (pc' := 107) rfl ?_
                      refine J.icmp_ne 129 d_M_write_107 rfl (fun c => ?_) (fun c => ?_)
                      · rw [if_neg c] at h
                        refine J.iconst (v := (-1 : Int32)) d_M_write_129 ki_m1 ?_
                        cases h
                        exact J.iret d_M_write_130 rfl (vp_nar_int _) rfl
                      · rw [if_pos c] at h
                        refine J.aload_n 0 d_M_write_110 rfl rfl ?_
                        refine J.getF (n := 121) hG d_M_write_111 fl_M_48 ck_109_34 rfl ?_
                        refine J.iload 4 d_M_write_114 rfl ?_
                        obtain ⟨x30, ex30, g, h⟩ := jld_some h
                        refine J.il hG d_M_write_116 g ex30 ?_
                        refine J.iload_n 1 d_M_write_117 rfl rfl ?_
                        refine J.icmp_ne 129 d_M_write_118 rfl (fun c => ?_) (fun c => ?_)
                        · rw [if_neg c] at h
                          refine J.iconst (v := (-1 : Int32)) d_M_write_129 ki_m1 ?_
                          cases h
                          exact J.iret d_M_write_130 rfl (vp_nar_int _) rfl
                        · rw [if_pos c] at h
                          refine J.aload_n 0 d_M_write_121 rfl rfl ?_
                          refine J.nop (pc' := 122) rfl ?_
                          refine J.iload_n 2 d_M_write_122 rfl rfl ?_
                          obtain ⟨x31, m32, zm32, h⟩ := jbd_some h
                          refine J.cVi Y_M_hasRoom (As := [.int v2]) (rest := []) hG d_M_write_123 mi_M_hasRoom mv_M_hasRoom lk_M_316 ⟨rfl, rfl, Nat.le_of_ble_eq_true rfl⟩ cq_109 cc_10 (c_M_hasRoom hG zm32) rfl (Nat.le_trans jcN (Nat.le_of_ble_eq_true rfl)) ?_
                          refine J.if_ne 131 d_M_write_126 rfl (fun c => ?_) (fun c => ?_)
                          · rw [if_neg c] at h
                            refine J.aload_n 0 d_M_write_131 rfl rfl ?_
                            refine J.iload_n 1 d_M_write_132 rfl rfl ?_
                            refine J.iload_n 2 d_M_write_133 rfl rfl ?_
                            refine J.iload_n 3 d_M_write_134 rfl rfl ?_
                            refine J.iload 4 d_M_write_135 rfl ?_
                            refine J.iload 5 d_M_write_137 rfl ?_
                            obtain ⟨u33, m34, zm34, h⟩ := jbd_some h
                            refine J.cVv Y_M_written (As := [.int v1, .int v2, .int v3, .int v4, .int v5]) (rest := []) hG d_M_write_139 mi_M_written mv_M_written lk_M_319 ⟨rfl, rfl, Nat.le_of_ble_eq_true rfl⟩ cq_109 cc_10 (c_M_written hG zm34) rfl (Nat.le_trans jcN (Nat.le_of_ble_eq_true rfl)) ?_
                            refine J.aload_n 0 d_M_write_142 rfl rfl ?_
                            refine J.nop (pc' := 143) rfl ?_
                            refine J.getI hG d_M_write_143 fl_M_277 ck_109_33 ?_
                            refine J.iconst (v := (1 : Int32)) d_M_write_146 ki_1 ?_
                            refine J.isub d_M_write_147 ?_
                            cases h
                            exact J.iret d_M_write_148 rfl (vp_nar_int _) rfl
                          · rw [if_pos c] at h
                            refine J.iconst (v := (-1 : Int32)) d_M_write_129 ki_m1 ?_
                            cases h
                            exact J.iret d_M_write_130 rfl (vp_nar_int _) rfl
                · rw [if_neg c] at h
                  refine J.goto 91 d_M_write_55 rfl ?_
                  refine J.iconst (v := (-1 : Int32)) d_M_write_91 ki_m1 ?_
                  cases h
                  exact J.iret d_M_write_92 rfl (vp_nar_int _) rfl
            · rw [if_neg c] at h
              refine J.nop (pc' := 41) rfl ?_
              refine J.iconst (v := (-1 : Int32)) d_M_write_41 ki_m1 ?_
              cases h
              exact J.iret d_M_write_42 rfl (vp_nar_int _) rfl

def f_M_isUnderWay (v1 : Int32) (m : jMem) : Option (Int32 × jMem) :=
  if v1 < 0 then
    some ((0 : Int32), m)
  else
    if (m 109 44) ≤ v1 then
      some ((0 : Int32), m)
    else
      jld 1 m 134 v1 fun x1 =>
      if x1 = 0 then
        some ((1 : Int32), m)
      else
        some ((0 : Int32), m)
theorem c_M_isUnderWay {G : jG} (hG : jFul G) {v1 : Int32} {m : jMem} {r : (Int32 × jMem)} (h : f_M_isUnderWay v1 m = some r) : jCt G Y_M_isUnderWay [jr G 109, .int v1] m (jri r) := by
  refine jCt.ov (ls := [(0, jr G 109), (1, .int v1)]) mi_M_isUnderWay (jAvR (jAvI jAvN)) (Nat.le_of_ble_eq_true rfl) ?_ ⟨rfl, rfl⟩
  unfold f_M_isUnderWay at h
  refine J.iload_n 1 d_M_isUnderWay_0 rfl rfl ?_
  refine J.if_lt 25 d_M_isUnderWay_1 rfl (fun c => ?_) (fun c => ?_)
  · rw [if_pos c] at h
    refine J.iconst (v := (0 : Int32)) d_M_isUnderWay_25 ki_0 ?_
    cases h
    exact J.iret d_M_isUnderWay_26 rfl rfl rfl
  · rw [if_neg c] at h
    refine J.iload_n 1 d_M_isUnderWay_4 rfl rfl ?_
    refine J.aload_n 0 d_M_isUnderWay_5 rfl rfl ?_
    refine J.getI hG d_M_isUnderWay_6 fl_M_292 ck_109_44 ?_
    refine J.icmp_ge 25 d_M_isUnderWay_9 rfl (fun c => ?_) (fun c => ?_)
    · rw [if_pos c] at h
      refine J.iconst (v := (0 : Int32)) d_M_isUnderWay_25 ki_0 ?_
      cases h
      exact J.iret d_M_isUnderWay_26 rfl rfl rfl
    · rw [if_neg c] at h
      refine J.aload_n 0 d_M_isUnderWay_12 rfl rfl ?_
      refine J.getF (n := 134) hG d_M_isUnderWay_13 fl_M_87 ck_109_49 rfl ?_
      refine J.nop (pc' := 16) rfl ?_
      refine J.iload_n 1 d_M_isUnderWay_16 rfl rfl ?_
      obtain ⟨x1, ex1, g, h⟩ := jld_some h
      refine J.il hG d_M_isUnderWay_17 g ex1 ?_
      refine J.if_ne 25 d_M_isUnderWay_18 rfl (fun c => ?_) (fun c => ?_)
      · rw [if_neg c] at h
        refine J.iconst (v := (0 : Int32)) d_M_isUnderWay_25 ki_0 ?_
        cases h
        exact J.iret d_M_isUnderWay_26 rfl rfl rfl
      · rw [if_pos c] at h
        refine J.iconst (v := (1 : Int32)) d_M_isUnderWay_21 ki_1 ?_
        refine J.goto 26 d_M_isUnderWay_22 rfl ?_
        cases h
        exact J.iret d_M_isUnderWay_26 rfl rfl rfl

def f_M_late (v1 : Int32) (v2 : Int32) (m : jMem) : Option (Int32 × jMem) :=
  jpu m 109 0 (0 : Int32) fun m1 =>
  jbd (f_M_isUnderWay v1 m1) fun x2 m3 =>
  if x2 = 0 then
    some ((-1 : Int32), m3)
  else
    if v2 < (1 : Int32) then
      some ((-1 : Int32), m3)
    else
      if (99 : Int32) < v2 then
        some ((-1 : Int32), m3)
      else
        jld 1 m3 133 v1 fun x4 =>
        if (x4 + v2) ≤ (999 : Int32) then
          jld 1 m3 131 v1 fun x5 =>
          jld 1 m3 132 v1 fun x6 =>
          jld 1 m3 133 v1 fun x7 =>
          jbd (f_M_parted x5 x6 (x7 + v2) m3) fun x8 m9 =>
          jst 1 m9 133 v1 x8 fun m10 =>
          jld 1 m10 133 v1 fun x11 =>
          some (x11, m10)
        else
          some ((-1 : Int32), m3)
theorem c_M_late {G : jG} (hG : jFul G) {v1 : Int32} {v2 : Int32} {m : jMem} {r : (Int32 × jMem)} (h : f_M_late v1 v2 m = some r) : jCt G Y_M_late [jr G 109, .int v1, .int v2] m (jri r) := by
  refine jCt.ov (ls := [(0, jr G 109), (1, .int v1), (2, .int v2)]) mi_M_late (jAvR (jAvI (jAvI jAvN))) (Nat.le_of_ble_eq_true rfl) ?_ ⟨rfl, rfl⟩
  unfold f_M_late at h
  refine J.aload_n 0 d_M_late_0 rfl rfl ?_
  refine J.iconst (v := (0 : Int32)) d_M_late_1 ki_0 ?_
  obtain ⟨m1, hm1, h⟩ := jpu_some h
  refine J.putI hG d_M_late_2 fl_M_132 fp_10_0 ck_109_0 hm1 ?_
  refine J.aload_n 0 d_M_late_5 rfl rfl ?_
  refine J.iload_n 1 d_M_late_6 rfl rfl ?_
  obtain ⟨x2, m3, zm3, h⟩ := jbd_some h
  refine J.cVi Y_M_isUnderWay (As := [.int v1]) (rest := []) hG d_M_late_7 mi_M_isUnderWay mv_M_isUnderWay lk_M_323 ⟨rfl, rfl, Nat.le_of_ble_eq_true rfl⟩ cq_109 cc_10 (c_M_isUnderWay hG zm3) rfl (Nat.le_trans jcN (Nat.le_of_ble_eq_true rfl)) ?_
  refine J.if_eq 38 d_M_late_10 rfl (fun c => ?_) (fun c => ?_)
  · rw [if_pos c] at h
    refine J.iconst (v := (-1 : Int32)) d_M_late_38 ki_m1 ?_
    cases h
    exact J.iret d_M_late_39 rfl (vp_nar_int _) rfl
  · rw [if_neg c] at h
    refine J.iload_n 2 d_M_late_13 rfl rfl ?_
    refine J.nop (pc' := 14) rfl ?_
    refine J.iconst (v := (1 : Int32)) d_M_late_14 ki_1 ?_
    refine J.icmp_lt 38 d_M_late_15 rfl (fun c => ?_) (fun c => ?_)
    · rw [if_pos c] at h
      refine J.iconst (v := (-1 : Int32)) d_M_late_38 ki_m1 ?_
      cases h
      exact J.iret d_M_late_39 rfl (vp_nar_int _) rfl
    · rw [if_neg c] at h
      refine J.iload_n 2 d_M_late_18 rfl rfl ?_
      refine J.bipush (v := (99 : Int32)) d_M_late_19 kb_99 ?_
      refine J.icmp_gt 38 d_M_late_21 rfl (fun c => ?_) (fun c => ?_)
      · rw [if_pos c] at h
        refine J.iconst (v := (-1 : Int32)) d_M_late_38 ki_m1 ?_
        cases h
        exact J.iret d_M_late_39 rfl (vp_nar_int _) rfl
      · rw [if_neg c] at h
        refine J.aload_n 0 d_M_late_24 rfl rfl ?_
        refine J.getF (n := 133) hG d_M_late_25 fl_M_84 ck_109_48 rfl ?_
        refine J.iload_n 1 d_M_late_28 rfl rfl ?_
        refine J.nop (pc' := 29) rfl ?_
        obtain ⟨x4, ex4, g, h⟩ := jld_some h
        refine J.il hG d_M_late_29 g ex4 ?_
        refine J.iload_n 2 d_M_late_30 rfl rfl ?_
        refine J.iadd d_M_late_31 ?_
        refine J.sipush (v := (999 : Int32)) d_M_late_32 ks_999 ?_
        refine J.icmp_le 40 d_M_late_35 rfl (fun c => ?_) (fun c => ?_)
        · rw [if_pos c] at h
          refine J.aload_n 0 d_M_late_40 rfl rfl ?_
          refine J.getF (n := 133) hG d_M_late_41 fl_M_84 ck_109_48 rfl ?_
          refine J.iload_n 1 d_M_late_44 rfl rfl ?_
          refine J.aload_n 0 d_M_late_45 rfl rfl ?_
          refine J.aload_n 0 d_M_late_46 rfl rfl ?_
          refine J.getF (n := 131) hG d_M_late_47 fl_M_78 ck_109_46 rfl ?_
          refine J.iload_n 1 d_M_late_50 rfl rfl ?_
          obtain ⟨x5, ex5, g, h⟩ := jld_some h
          refine J.il hG d_M_late_51 g ex5 ?_
          refine J.nop (pc' := 52) rfl ?_
          refine J.aload_n 0 d_M_late_52 rfl rfl ?_
          refine J.getF (n := 132) hG d_M_late_53 fl_M_81 ck_109_47 rfl ?_
          refine J.iload_n 1 d_M_late_56 rfl rfl ?_
          obtain ⟨x6, ex6, g, h⟩ := jld_some h
          refine J.il hG d_M_late_57 g ex6 ?_
          refine J.aload_n 0 d_M_late_58 rfl rfl ?_
          refine J.getF (n := 133) hG d_M_late_59 fl_M_84 ck_109_48 rfl ?_
          refine J.iload_n 1 d_M_late_62 rfl rfl ?_
          obtain ⟨x7, ex7, g, h⟩ := jld_some h
          refine J.il hG d_M_late_63 g ex7 ?_
          refine J.nop (pc' := 64) rfl ?_
          refine J.iload_n 2 d_M_late_64 rfl rfl ?_
          refine J.iadd d_M_late_65 ?_
          obtain ⟨x8, m9, zm9, h⟩ := jbd_some h
          refine J.cVi Y_M_parted (As := [.int x5, .int x6, .int (x7 + v2)]) (rest := [.int v1, jr G 133]) hG d_M_late_66 mi_M_parted mv_M_parted lk_M_298 ⟨rfl, rfl, Nat.le_of_ble_eq_true rfl⟩ cq_109 cc_10 (c_M_parted hG zm9) rfl (Nat.le_trans (jcI (jcR jcN)) (Nat.le_of_ble_eq_true rfl)) ?_
          obtain ⟨m10, hm10, g, h⟩ := jst_some h
          refine J.is hG d_M_late_69 g hm10 ?_
          refine J.aload_n 0 d_M_late_70 rfl rfl ?_
          refine J.getF (n := 133) hG d_M_late_71 fl_M_84 ck_109_48 rfl ?_
          refine J.iload_n 1 d_M_late_74 rfl rfl ?_
          obtain ⟨x11, ex11, g, h⟩ := jld_some h
          refine J.il hG d_M_late_75 g ex11 ?_
          refine J.nop (pc' := 76) rfl ?_
          cases h
          exact J.iret d_M_late_76 rfl (vp_nar_int _) rfl
        · rw [if_neg c] at h
          refine J.iconst (v := (-1 : Int32)) d_M_late_38 ki_m1 ?_
          cases h
          exact J.iret d_M_late_39 rfl (vp_nar_int _) rfl

def f_M_lose (v1 : Int32) (m : jMem) : Option (Int32 × jMem) :=
  jpu m 109 0 (0 : Int32) fun m1 =>
  jbd (f_M_isUnderWay v1 m1) fun x2 m3 =>
  if x2 = 0 then
    some ((0 : Int32), m3)
  else
    jst 1 m3 134 v1 (2 : Int32) fun m4 =>
    some ((1 : Int32), m4)
theorem c_M_lose {G : jG} (hG : jFul G) {v1 : Int32} {m : jMem} {r : (Int32 × jMem)} (h : f_M_lose v1 m = some r) : jCt G Y_M_lose [jr G 109, .int v1] m (jri r) := by
  refine jCt.ov (ls := [(0, jr G 109), (1, .int v1)]) mi_M_lose (jAvR (jAvI jAvN)) (Nat.le_of_ble_eq_true rfl) ?_ ⟨rfl, rfl⟩
  unfold f_M_lose at h
  refine J.aload_n 0 d_M_lose_0 rfl rfl ?_
  refine J.iconst (v := (0 : Int32)) d_M_lose_1 ki_0 ?_
  obtain ⟨m1, hm1, h⟩ := jpu_some h
  refine J.putI hG d_M_lose_2 fl_M_132 fp_10_0 ck_109_0 hm1 ?_
  refine J.aload_n 0 d_M_lose_5 rfl rfl ?_
  refine J.iload_n 1 d_M_lose_6 rfl rfl ?_
  obtain ⟨x2, m3, zm3, h⟩ := jbd_some h
  refine J.cVi Y_M_isUnderWay (As := [.int v1]) (rest := []) hG d_M_lose_7 mi_M_isUnderWay mv_M_isUnderWay lk_M_323 ⟨rfl, rfl, Nat.le_of_ble_eq_true rfl⟩ cq_109 cc_10 (c_M_isUnderWay hG zm3) rfl (Nat.le_trans jcN (Nat.le_of_ble_eq_true rfl)) ?_
  refine J.if_ne 15 d_M_lose_10 rfl (fun c => ?_) (fun c => ?_)
  · rw [if_neg c] at h
    refine J.aload_n 0 d_M_lose_15 rfl rfl ?_
    refine J.getF (n := 134) hG d_M_lose_16 fl_M_87 ck_109_49 rfl ?_
    refine J.iload_n 1 d_M_lose_19 rfl rfl ?_
    refine J.iconst (v := (2 : Int32)) d_M_lose_20 ki_2 ?_
    obtain ⟨m4, hm4, g, h⟩ := jst_some h
    refine J.is hG d_M_lose_21 g hm4 ?_
    refine J.iconst (v := (1 : Int32)) d_M_lose_22 ki_1 ?_
    cases h
    exact J.iret d_M_lose_23 rfl rfl rfl
  · rw [if_pos c] at h
    refine J.iconst (v := (0 : Int32)) d_M_lose_13 ki_0 ?_
    refine J.nop (pc' := 14) rfl ?_
    cases h
    exact J.iret d_M_lose_14 rfl rfl rfl

def f_M_again (v1 : Int32) (v2 : Int32) (v3 : Int32) (m : jMem) : Option (Int32 × jMem) :=
  jpu m 109 0 (0 : Int32) fun m1 =>
  jbd (f_M_isWriter v2 m1) fun x2 m3 =>
  if x2 = 0 then
    some ((-1 : Int32), m3)
  else
    jbd (f_M_isWriter v3 m3) fun x4 m5 =>
    if x4 = 0 then
      some ((-1 : Int32), m5)
    else
      if v2 = v3 then
        some ((-1 : Int32), m5)
      else
        jbd (f_M_isKnown v2 v1 m5) fun x6 m7 =>
        if x6 = 0 then
          some ((-1 : Int32), m7)
        else
          if (m7 109 44) = (150 : Int32) then
            some ((-1 : Int32), m7)
          else
            jbd (f_M_post v1 v2 v3 m7) fun u8 m9 =>
            some (((m9 109 44) - (1 : Int32)), m9)
theorem c_M_again {G : jG} (hG : jFul G) {v1 : Int32} {v2 : Int32} {v3 : Int32} {m : jMem} {r : (Int32 × jMem)} (h : f_M_again v1 v2 v3 m = some r) : jCt G Y_M_again [jr G 109, .int v1, .int v2, .int v3] m (jri r) := by
  refine jCt.ov (ls := [(0, jr G 109), (1, .int v1), (2, .int v2), (3, .int v3)]) mi_M_again (jAvR (jAvI (jAvI (jAvI jAvN)))) (Nat.le_of_ble_eq_true rfl) ?_ ⟨rfl, rfl⟩
  unfold f_M_again at h
  refine J.aload_n 0 d_M_again_0 rfl rfl ?_
  refine J.iconst (v := (0 : Int32)) d_M_again_1 ki_0 ?_
  obtain ⟨m1, hm1, h⟩ := jpu_some h
  refine J.putI hG d_M_again_2 fl_M_132 fp_10_0 ck_109_0 hm1 ?_
  refine J.iload_n 2 d_M_again_5 rfl rfl ?_
  obtain ⟨x2, m3, zm3, h⟩ := jbd_some h
  refine J.cSi Y_M_isWriter (As := [.int v2]) (rest := []) d_M_again_6 mi_M_isWriter ms_M_isWriter lk_M_280 ⟨rfl, rfl, Nat.le_of_ble_eq_true rfl⟩ (c_M_isWriter hG zm3) rfl (Nat.le_trans jcN (Nat.le_of_ble_eq_true rfl)) ?_
  refine J.if_eq 43 d_M_again_9 rfl (fun c => ?_) (fun c => ?_)
  · rw [if_pos c] at h
    refine J.iconst (v := (-1 : Int32)) d_M_again_43 ki_m1 ?_
    cases h
    exact J.iret d_M_again_44 rfl (vp_nar_int _) rfl
  · rw [if_neg c] at h
    refine J.iload_n 3 d_M_again_12 rfl rfl ?_
    obtain ⟨x4, m5, zm5, h⟩ := jbd_some h
    refine J.cSi Y_M_isWriter (As := [.int v3]) (rest := []) d_M_again_13 mi_M_isWriter ms_M_isWriter lk_M_280 ⟨rfl, rfl, Nat.le_of_ble_eq_true rfl⟩ (c_M_isWriter hG zm5) rfl (Nat.le_trans jcN (Nat.le_of_ble_eq_true rfl)) ?_
    refine J.nop (pc' := 16) rfl ?_
    refine J.if_eq 43 d_M_again_16 rfl (fun c => ?_) (fun c => ?_)
    · rw [if_pos c] at h
      refine J.iconst (v := (-1 : Int32)) d_M_again_43 ki_m1 ?_
      cases h
      exact J.iret d_M_again_44 rfl (vp_nar_int _) rfl
    · rw [if_neg c] at h
      refine J.iload_n 2 d_M_again_19 rfl rfl ?_
      refine J.iload_n 3 d_M_again_20 rfl rfl ?_
      refine J.icmp_eq 43 d_M_again_21 rfl (fun c => ?_) (fun c => ?_)
      · rw [if_pos c] at h
        refine J.iconst (v := (-1 : Int32)) d_M_again_43 ki_m1 ?_
        cases h
        exact J.iret d_M_again_44 rfl (vp_nar_int _) rfl
      · rw [if_neg c] at h
        refine J.aload_n 0 d_M_again_24 rfl rfl ?_
        refine J.iload_n 2 d_M_again_25 rfl rfl ?_
        refine J.iload_n 1 d_M_again_26 rfl rfl ?_
        obtain ⟨x6, m7, zm7, h⟩ := jbd_some h
        refine J.cVi Y_M_isKnown (As := [.int v2, .int v1]) (rest := []) hG d_M_again_27 mi_M_isKnown mv_M_isKnown lk_M_312 ⟨rfl, rfl, Nat.le_of_ble_eq_true rfl⟩ cq_109 cc_10 (c_M_isKnown hG zm7) rfl (Nat.le_trans jcN (Nat.le_of_ble_eq_true rfl)) ?_
        refine J.nop (pc' := 30) rfl ?_
        refine J.if_eq 43 d_M_again_30 rfl (fun c => ?_) (fun c => ?_)
        · rw [if_pos c] at h
          refine J.iconst (v := (-1 : Int32)) d_M_again_43 ki_m1 ?_
          cases h
          exact J.iret d_M_again_44 rfl (vp_nar_int _) rfl
        · rw [if_neg c] at h
          refine J.aload_n 0 d_M_again_33 rfl rfl ?_
          refine J.getI hG d_M_again_34 fl_M_292 ck_109_44 ?_
          refine J.sipush (v := (150 : Int32)) d_M_again_37 ks_150 ?_
          refine J.icmp_ne 45 d_M_again_40 rfl (fun c => ?_) (fun c => ?_)
          · rw [if_neg c] at h
            refine J.aload_n 0 d_M_again_45 rfl rfl ?_
            refine J.iload_n 1 d_M_again_46 rfl rfl ?_
            refine J.iload_n 2 d_M_again_47 rfl rfl ?_
            refine J.iload_n 3 d_M_again_48 rfl rfl ?_
            obtain ⟨u8, m9, zm9, h⟩ := jbd_some h
            refine J.cVv Y_M_post (As := [.int v1, .int v2, .int v3]) (rest := []) hG d_M_again_49 mi_M_post mv_M_post lk_M_302 ⟨rfl, rfl, Nat.le_of_ble_eq_true rfl⟩ cq_109 cc_10 (c_M_post hG zm9) rfl (Nat.le_trans jcN (Nat.le_of_ble_eq_true rfl)) ?_
            refine J.aload_n 0 d_M_again_52 rfl rfl ?_
            refine J.getI hG d_M_again_53 fl_M_292 ck_109_44 ?_
            refine J.iconst (v := (1 : Int32)) d_M_again_56 ki_1 ?_
            refine J.nop (pc' := 57) rfl ?_
            refine J.isub d_M_again_57 ?_
            cases h
            exact J.iret d_M_again_58 rfl (vp_nar_int _) rfl
          · rw [if_pos c] at h
            refine J.iconst (v := (-1 : Int32)) d_M_again_43 ki_m1 ?_
            cases h
            exact J.iret d_M_again_44 rfl (vp_nar_int _) rfl

def f_M_split (v1 : Int32) (v2 : Int32) (v3 : Int32) (m : jMem) : Option (Int32 × jMem) :=
  jpu m 109 0 (0 : Int32) fun m1 =>
  if v1 < 0 then
    some ((0 : Int32), m1)
  else
    if (63 : Int32) < v1 then
      some ((0 : Int32), m1)
    else
      if v2 < 0 then
        some ((0 : Int32), m1)
      else
        if (998 : Int32) < v3 then
          some ((0 : Int32), m1)
        else
          if v2 ≤ v3 then
            jpu m1 109 50 v1 fun m2 =>
            jpu m2 109 51 v2 fun m3 =>
            jpu m3 109 52 v3 fun m4 =>
            some ((1 : Int32), m4)
          else
            some ((0 : Int32), m1)
theorem c_M_split {G : jG} (hG : jFul G) {v1 : Int32} {v2 : Int32} {v3 : Int32} {m : jMem} {r : (Int32 × jMem)} (h : f_M_split v1 v2 v3 m = some r) : jCt G Y_M_split [jr G 109, .int v1, .int v2, .int v3] m (jri r) := by
  refine jCt.ov (ls := [(0, jr G 109), (1, .int v1), (2, .int v2), (3, .int v3)]) mi_M_split (jAvR (jAvI (jAvI (jAvI jAvN)))) (Nat.le_of_ble_eq_true rfl) ?_ ⟨rfl, rfl⟩
  unfold f_M_split at h
  refine J.aload_n 0 d_M_split_0 rfl rfl ?_
  refine J.iconst (v := (0 : Int32)) d_M_split_1 ki_0 ?_
  obtain ⟨m1, hm1, h⟩ := jpu_some h
  refine J.putI hG d_M_split_2 fl_M_132 fp_10_0 ck_109_0 hm1 ?_
  refine J.iload_n 1 d_M_split_5 rfl rfl ?_
  refine J.if_lt 31 d_M_split_6 rfl (fun c => ?_) (fun c => ?_)
  · rw [if_pos c] at h
    refine J.iconst (v := (0 : Int32)) d_M_split_31 ki_0 ?_
    cases h
    exact J.iret d_M_split_32 rfl rfl rfl
  · rw [if_neg c] at h
    refine J.iload_n 1 d_M_split_9 rfl rfl ?_
    refine J.bipush (v := (63 : Int32)) d_M_split_10 kb_63 ?_
    refine J.icmp_gt 31 d_M_split_12 rfl (fun c => ?_) (fun c => ?_)
    · rw [if_pos c] at h
      refine J.iconst (v := (0 : Int32)) d_M_split_31 ki_0 ?_
      cases h
      exact J.iret d_M_split_32 rfl rfl rfl
    · rw [if_neg c] at h
      refine J.nop (pc' := 15) rfl ?_
      refine J.iload_n 2 d_M_split_15 rfl rfl ?_
      refine J.if_lt 31 d_M_split_16 rfl (fun c => ?_) (fun c => ?_)
      · rw [if_pos c] at h
        refine J.iconst (v := (0 : Int32)) d_M_split_31 ki_0 ?_
        cases h
        exact J.iret d_M_split_32 rfl rfl rfl
      · rw [if_neg c] at h
        refine J.iload_n 3 d_M_split_19 rfl rfl ?_
        refine J.sipush (v := (998 : Int32)) d_M_split_20 ks_998 ?_
        refine J.icmp_gt 31 d_M_split_23 rfl (fun c => ?_) (fun c => ?_)
        · rw [if_pos c] at h
          refine J.iconst (v := (0 : Int32)) d_M_split_31 ki_0 ?_
          cases h
          exact J.iret d_M_split_32 rfl rfl rfl
        · rw [if_neg c] at h
          refine J.iload_n 2 d_M_split_26 rfl rfl ?_
          refine J.iload_n 3 d_M_split_27 rfl rfl ?_
          refine J.icmp_le 33 d_M_split_28 rfl (fun c => ?_) (fun c => ?_)
          · rw [if_pos c] at h
            refine J.aload_n 0 d_M_split_33 rfl rfl ?_
            refine J.iload_n 1 d_M_split_34 rfl rfl ?_
            obtain ⟨m2, hm2, h⟩ := jpu_some h
            refine J.putI hG d_M_split_35 fl_M_283 fp_10_50 ck_109_50 hm2 ?_
            refine J.aload_n 0 d_M_split_38 rfl rfl ?_
            refine J.iload_n 2 d_M_split_39 rfl rfl ?_
            obtain ⟨m3, hm3, h⟩ := jpu_some h
            refine J.putI hG d_M_split_40 fl_M_286 fp_10_51 ck_109_51 hm3 ?_
            refine J.aload_n 0 d_M_split_43 rfl rfl ?_
            refine J.iload_n 3 d_M_split_44 rfl rfl ?_
            refine J.nop (pc' := 45) rfl ?_
            obtain ⟨m4, hm4, h⟩ := jpu_some h
            refine J.putI hG d_M_split_45 fl_M_289 fp_10_52 ck_109_52 hm4 ?_
            refine J.iconst (v := (1 : Int32)) d_M_split_48 ki_1 ?_
            cases h
            exact J.iret d_M_split_49 rfl rfl rfl
          · rw [if_neg c] at h
            refine J.nop (pc' := 31) rfl ?_
            refine J.iconst (v := (0 : Int32)) d_M_split_31 ki_0 ?_
            cases h
            exact J.iret d_M_split_32 rfl rfl rfl

def lp_M_deskPlace_2 (v1 : Int32) (v2 : Int32) (k27 : Int32 → jMem → Option (Int32 × jMem)) (k35 : jMem → Option (Int32 × jMem)) : Nat → Int32 → jMem → Option (Int32 × jMem)
  | 0, _, _ => none
  | n + 1, v3, m =>
    jld 1 m 138 v1 fun x1 =>
    if x1 ≤ v3 then
      k35 m
    else
      jld 1 m 137 (((30 : Int32) * v1) + v3) fun x2 =>
      if x2 = v2 then
        k27 v3 m
      else
        lp_M_deskPlace_2 v1 v2 k27 k35 n (v3 + (1 : Int32)) m
def f_M_deskPlace (v1 : Int32) (v2 : Int32) (m : jMem) : Option (Int32 × jMem) :=
  lp_M_deskPlace_2 v1 v2 (fun w4 m3 =>
    some (w4, m3)) (fun m5 =>
    some ((-1 : Int32), m5)) 5000 (0 : Int32) m
theorem jlp_M_deskPlace_2 {G : jG} (hG : jFul G) (v1 : Int32) (v2 : Int32) (k27 : Int32 → jMem → Option (Int32 × jMem)) (k35 : jMem → Option (Int32 × jMem))
    (hk27 : ∀ (v3 : Int32) (m : jMem) (r : (Int32 × jMem)), k27 v3 m = some r → J G Y_M_deskPlace 27 [(3, .int v3)] [] m (jri r))
    (hk35 : ∀ (m : jMem) (r : (Int32 × jMem)), k35 m = some r → J G Y_M_deskPlace 35 [] [] m (jri r)) : ∀ (n : Nat) (v3 : Int32) (m : jMem) (r : (Int32 × jMem)), lp_M_deskPlace_2 v1 v2 k27 k35 n v3 m = some r → J G Y_M_deskPlace 2 [(0, jr G 109), (1, .int v1), (2, .int v2), (3, .int v3)] [] m (jri r) := by
  intro n
  induction n with
  | zero => intro v3 m r h; unfold lp_M_deskPlace_2 at h; cases h
  | succ n ih =>
    intro v3 m r h
    unfold lp_M_deskPlace_2 at h
    refine J.iload_n 3 d_M_deskPlace_2 rfl rfl ?_
    refine J.aload_n 0 d_M_deskPlace_3 rfl rfl ?_
    refine J.getF (n := 138) hG d_M_deskPlace_4 fl_M_99 ck_109_56 rfl ?_
    refine J.iload_n 1 d_M_deskPlace_7 rfl rfl ?_
    obtain ⟨x1, ex1, g, h⟩ := jld_some h
    refine J.il hG d_M_deskPlace_8 g ex1 ?_
    refine J.icmp_ge 35 d_M_deskPlace_9 rfl (fun c => ?_) (fun c => ?_)
    · rw [if_pos c] at h
      exact J.sub (ls' := []) [] rfl (hk35  m _ h)
    · rw [if_neg c] at h
      refine J.aload_n 0 d_M_deskPlace_12 rfl rfl ?_
      refine J.getF (n := 137) hG d_M_deskPlace_13 fl_M_96 ck_109_55 rfl ?_
      refine J.nop (pc' := 16) rfl ?_
      refine J.bipush (v := (30 : Int32)) d_M_deskPlace_16 kb_30 ?_
      refine J.iload_n 1 d_M_deskPlace_18 rfl rfl ?_
      refine J.imul d_M_deskPlace_19 ?_
      refine J.iload_n 3 d_M_deskPlace_20 rfl rfl ?_
      refine J.iadd d_M_deskPlace_21 ?_
      obtain ⟨x2, ex2, g, h⟩ := jld_some h
      refine J.il hG d_M_deskPlace_22 g ex2 ?_
      refine J.iload_n 2 d_M_deskPlace_23 rfl rfl ?_
      refine J.icmp_ne 29 d_M_deskPlace_24 rfl (fun c => ?_) (fun c => ?_)
      · rw [if_neg c] at h
        refine J.iinc 3 (v := (1 : Int32)) (lv := [(3, .int (v3 + (1 : Int32))), (0, jr G 109), (1, .int v1), (2, .int v2)]) d_M_deskPlace_29 rfl ki_1 (by decide) rfl ?_
        refine J.goto 2 d_M_deskPlace_32 rfl ?_
        exact J.sub (ls' := [(0, jr G 109), (1, .int v1), (2, .int v2), (3, .int (v3 + (1 : Int32)))]) [1, 2, 3, 0] rfl (ih (v3 + (1 : Int32)) m _ h)
      · rw [if_pos c] at h
        exact J.sub (ls' := [(3, .int v3)]) [3] rfl (hk27 v3 m _ h)
theorem c_M_deskPlace {G : jG} (hG : jFul G) {v1 : Int32} {v2 : Int32} {m : jMem} {r : (Int32 × jMem)} (h : f_M_deskPlace v1 v2 m = some r) : jCt G Y_M_deskPlace [jr G 109, .int v1, .int v2] m (jri r) := by
  refine jCt.ov (ls := [(0, jr G 109), (1, .int v1), (2, .int v2)]) mi_M_deskPlace (jAvR (jAvI (jAvI jAvN))) (Nat.le_of_ble_eq_true rfl) ?_ ⟨rfl, rfl⟩
  unfold f_M_deskPlace at h
  refine J.iconst (v := (0 : Int32)) d_M_deskPlace_0 ki_0 ?_
  refine J.istore_n (lv := [(3, .int (0 : Int32)), (0, jr G 109), (1, .int v1), (2, .int v2)]) d_M_deskPlace_1 rfl (by decide) rfl ?_
  refine J.sub (ls' := [(0, jr G 109), (1, .int v1), (2, .int v2), (3, .int (0 : Int32))]) [1, 2, 3, 0] rfl ?_
  refine jlp_M_deskPlace_2 hG v1 v2 _ _ ?_ ?_ _ (0 : Int32) m _ h
  · intro w4 m3 r h
    refine J.iload_n 0 d_M_deskPlace_27 rfl rfl ?_
    cases h
    exact J.iret d_M_deskPlace_28 rfl (vp_nar_int _) rfl
  · intro m5 r h
    refine J.iconst (v := (-1 : Int32)) d_M_deskPlace_35 ki_m1 ?_
    cases h
    exact J.iret d_M_deskPlace_36 rfl (vp_nar_int _) rfl

def lp_M_waitsFor_5 (v1 : Int32) (v2 : Int32) (k164 : Int32 → jMem → Option (Int32 × jMem)) : Nat → Int32 → Int32 → jMem → Option (Int32 × jMem)
  | 0, _, _, _ => none
  | n + 1, v3, v4, m =>
    if v2 ≤ v4 then
      k164 v3 m
    else
      jld 1 m 116 v1 fun x1 =>
      if x1 = (2 : Int32) then
        jld 1 m 121 v4 fun x19 =>
        jld 1 m 121 v2 fun x20 =>
        if x19 = x20 then
          if (1 : Int32) = 0 then
            lp_M_waitsFor_5 v1 v2 k164 n v3 (v4 + (1 : Int32)) m
          else
            jld 1 m 124 v4 fun x23 =>
            if ((x23 >>> (v1 &&& 31)) &&& (1 : Int32)) = (1 : Int32) then
              jld 1 m 135 v1 fun x24 =>
              if ((x24 >>> (v4 &&& 31)) &&& (1 : Int32)) = 0 then
                lp_M_waitsFor_5 v1 v2 k164 n (v3 ||| ((1 : Int32) <<< (v4 &&& 31))) (v4 + (1 : Int32)) m
              else
                lp_M_waitsFor_5 v1 v2 k164 n v3 (v4 + (1 : Int32)) m
            else
              lp_M_waitsFor_5 v1 v2 k164 n v3 (v4 + (1 : Int32)) m
        else
          if (0 : Int32) = 0 then
            lp_M_waitsFor_5 v1 v2 k164 n v3 (v4 + (1 : Int32)) m
          else
            jld 1 m 124 v4 fun x21 =>
            if ((x21 >>> (v1 &&& 31)) &&& (1 : Int32)) = (1 : Int32) then
              jld 1 m 135 v1 fun x22 =>
              if ((x22 >>> (v4 &&& 31)) &&& (1 : Int32)) = 0 then
                lp_M_waitsFor_5 v1 v2 k164 n (v3 ||| ((1 : Int32) <<< (v4 &&& 31))) (v4 + (1 : Int32)) m
              else
                lp_M_waitsFor_5 v1 v2 k164 n v3 (v4 + (1 : Int32)) m
            else
              lp_M_waitsFor_5 v1 v2 k164 n v3 (v4 + (1 : Int32)) m
      else
        jld 1 m 116 v1 fun x2 =>
        if x2 = (3 : Int32) then
          jld 1 m 125 v2 fun x11 =>
          if x11 = v4 then
            if (1 : Int32) = 0 then
              lp_M_waitsFor_5 v1 v2 k164 n v3 (v4 + (1 : Int32)) m
            else
              jld 1 m 124 v4 fun x12 =>
              if ((x12 >>> (v1 &&& 31)) &&& (1 : Int32)) = (1 : Int32) then
                jld 1 m 135 v1 fun x13 =>
                if ((x13 >>> (v4 &&& 31)) &&& (1 : Int32)) = 0 then
                  lp_M_waitsFor_5 v1 v2 k164 n (v3 ||| ((1 : Int32) <<< (v4 &&& 31))) (v4 + (1 : Int32)) m
                else
                  lp_M_waitsFor_5 v1 v2 k164 n v3 (v4 + (1 : Int32)) m
              else
                lp_M_waitsFor_5 v1 v2 k164 n v3 (v4 + (1 : Int32)) m
          else
            jld 1 m 126 v2 fun x14 =>
            if x14 = v4 then
              if (1 : Int32) = 0 then
                lp_M_waitsFor_5 v1 v2 k164 n v3 (v4 + (1 : Int32)) m
              else
                jld 1 m 124 v4 fun x17 =>
                if ((x17 >>> (v1 &&& 31)) &&& (1 : Int32)) = (1 : Int32) then
                  jld 1 m 135 v1 fun x18 =>
                  if ((x18 >>> (v4 &&& 31)) &&& (1 : Int32)) = 0 then
                    lp_M_waitsFor_5 v1 v2 k164 n (v3 ||| ((1 : Int32) <<< (v4 &&& 31))) (v4 + (1 : Int32)) m
                  else
                    lp_M_waitsFor_5 v1 v2 k164 n v3 (v4 + (1 : Int32)) m
                else
                  lp_M_waitsFor_5 v1 v2 k164 n v3 (v4 + (1 : Int32)) m
            else
              if (0 : Int32) = 0 then
                lp_M_waitsFor_5 v1 v2 k164 n v3 (v4 + (1 : Int32)) m
              else
                jld 1 m 124 v4 fun x15 =>
                if ((x15 >>> (v1 &&& 31)) &&& (1 : Int32)) = (1 : Int32) then
                  jld 1 m 135 v1 fun x16 =>
                  if ((x16 >>> (v4 &&& 31)) &&& (1 : Int32)) = 0 then
                    lp_M_waitsFor_5 v1 v2 k164 n (v3 ||| ((1 : Int32) <<< (v4 &&& 31))) (v4 + (1 : Int32)) m
                  else
                    lp_M_waitsFor_5 v1 v2 k164 n v3 (v4 + (1 : Int32)) m
                else
                  lp_M_waitsFor_5 v1 v2 k164 n v3 (v4 + (1 : Int32)) m
        else
          jld 1 m 116 v1 fun x3 =>
          if x3 = (4 : Int32) then
            jld 1 m 128 v2 fun x6 =>
            if ((x6 >>> (v4 &&& 31)) &&& (1 : Int32)) = (1 : Int32) then
              if (1 : Int32) = 0 then
                lp_M_waitsFor_5 v1 v2 k164 n v3 (v4 + (1 : Int32)) m
              else
                jld 1 m 124 v4 fun x9 =>
                if ((x9 >>> (v1 &&& 31)) &&& (1 : Int32)) = (1 : Int32) then
                  jld 1 m 135 v1 fun x10 =>
                  if ((x10 >>> (v4 &&& 31)) &&& (1 : Int32)) = 0 then
                    lp_M_waitsFor_5 v1 v2 k164 n (v3 ||| ((1 : Int32) <<< (v4 &&& 31))) (v4 + (1 : Int32)) m
                  else
                    lp_M_waitsFor_5 v1 v2 k164 n v3 (v4 + (1 : Int32)) m
                else
                  lp_M_waitsFor_5 v1 v2 k164 n v3 (v4 + (1 : Int32)) m
            else
              if (0 : Int32) = 0 then
                lp_M_waitsFor_5 v1 v2 k164 n v3 (v4 + (1 : Int32)) m
              else
                jld 1 m 124 v4 fun x7 =>
                if ((x7 >>> (v1 &&& 31)) &&& (1 : Int32)) = (1 : Int32) then
                  jld 1 m 135 v1 fun x8 =>
                  if ((x8 >>> (v4 &&& 31)) &&& (1 : Int32)) = 0 then
                    lp_M_waitsFor_5 v1 v2 k164 n (v3 ||| ((1 : Int32) <<< (v4 &&& 31))) (v4 + (1 : Int32)) m
                  else
                    lp_M_waitsFor_5 v1 v2 k164 n v3 (v4 + (1 : Int32)) m
                else
                  lp_M_waitsFor_5 v1 v2 k164 n v3 (v4 + (1 : Int32)) m
          else
            if (0 : Int32) = 0 then
              lp_M_waitsFor_5 v1 v2 k164 n v3 (v4 + (1 : Int32)) m
            else
              jld 1 m 124 v4 fun x4 =>
              if ((x4 >>> (v1 &&& 31)) &&& (1 : Int32)) = (1 : Int32) then
                jld 1 m 135 v1 fun x5 =>
                if ((x5 >>> (v4 &&& 31)) &&& (1 : Int32)) = 0 then
                  lp_M_waitsFor_5 v1 v2 k164 n (v3 ||| ((1 : Int32) <<< (v4 &&& 31))) (v4 + (1 : Int32)) m
                else
                  lp_M_waitsFor_5 v1 v2 k164 n v3 (v4 + (1 : Int32)) m
              else
                lp_M_waitsFor_5 v1 v2 k164 n v3 (v4 + (1 : Int32)) m
def f_M_waitsFor (v1 : Int32) (v2 : Int32) (m : jMem) : Option (Int32 × jMem) :=
  lp_M_waitsFor_5 v1 v2 (fun w26 m25 =>
    some (w26, m25)) 5000 (0 : Int32) (0 : Int32) m
theorem jlp_M_waitsFor_5 {G : jG} (hG : jFul G) (v1 : Int32) (v2 : Int32) (k164 : Int32 → jMem → Option (Int32 × jMem))
    (hk164 : ∀ (v3 : Int32) (m : jMem) (r : (Int32 × jMem)), k164 v3 m = some r → J G Y_M_waitsFor 164 [(3, .int v3)] [] m (jri r)) : ∀ (n : Nat) (v3 : Int32) (v4 : Int32) (m : jMem) (r : (Int32 × jMem)), lp_M_waitsFor_5 v1 v2 k164 n v3 v4 m = some r → J G Y_M_waitsFor 5 [(0, jr G 109), (1, .int v1), (2, .int v2), (3, .int v3), (4, .int v4)] [] m (jri r) := by
  intro n
  induction n with
  | zero => intro v3 v4 m r h; unfold lp_M_waitsFor_5 at h; cases h
  | succ n ih =>
    intro v3 v4 m r h
    unfold lp_M_waitsFor_5 at h
    refine J.iload 4 d_M_waitsFor_5 rfl ?_
    refine J.iload_n 2 d_M_waitsFor_7 rfl rfl ?_
    refine J.icmp_ge 164 d_M_waitsFor_8 rfl (fun c => ?_) (fun c => ?_)
    · rw [if_pos c] at h
      exact J.sub (ls' := [(3, .int v3)]) [3] rfl (hk164 v3 m _ h)
    · rw [if_neg c] at h
      refine J.aload_n 0 d_M_waitsFor_11 rfl rfl ?_
      refine J.getF (n := 116) hG d_M_waitsFor_12 fl_M_29 ck_109_13 rfl ?_
      refine J.iload_n 1 d_M_waitsFor_15 rfl rfl ?_
      obtain ⟨x1, ex1, g, h⟩ := jld_some h
      refine J.il hG d_M_waitsFor_16 g ex1 ?_
      refine J.iconst (v := (2 : Int32)) d_M_waitsFor_17 ki_2 ?_
      refine J.nop (pc' := 18) rfl ?_
      refine J.icmp_ne 45 d_M_waitsFor_18 rfl (fun c => ?_) (fun c => ?_)
      · rw [if_neg c] at h
        refine J.aload_n 0 d_M_waitsFor_45 rfl rfl ?_
        refine J.getF (n := 116) hG d_M_waitsFor_46 fl_M_29 ck_109_13 rfl ?_
        refine J.iload_n 1 d_M_waitsFor_49 rfl rfl ?_
        obtain ⟨x2, ex2, g, h⟩ := jld_some h
        refine J.il hG d_M_waitsFor_50 g ex2 ?_
        refine J.iconst (v := (3 : Int32)) d_M_waitsFor_51 ki_3 ?_
        refine J.icmp_ne 85 d_M_waitsFor_52 rfl (fun c => ?_) (fun c => ?_)
        · rw [if_neg c] at h
          refine J.aload_n 0 d_M_waitsFor_85 rfl rfl ?_
          refine J.getF (n := 116) hG d_M_waitsFor_86 fl_M_29 ck_109_13 rfl ?_
          refine J.iload_n 1 d_M_waitsFor_89 rfl rfl ?_
          obtain ⟨x3, ex3, g, h⟩ := jld_some h
          refine J.il hG d_M_waitsFor_90 g ex3 ?_
          refine J.iconst (v := (4 : Int32)) d_M_waitsFor_91 ki_4 ?_
          refine J.icmp_ne 114 d_M_waitsFor_92 rfl (fun c => ?_) (fun c => ?_)
          · rw [if_neg c] at h
            refine J.iconst (v := (0 : Int32)) d_M_waitsFor_114 ki_0 ?_
            refine J.istore (lv := [(5, .int (0 : Int32)), (0, jr G 109), (1, .int v1), (2, .int v2), (3, .int v3), (4, .int v4)]) d_M_waitsFor_115 (by decide) rfl ?_
            refine J.iload 0 d_M_waitsFor_117 rfl ?_
            refine J.if_eq 158 d_M_waitsFor_119 rfl (fun c => ?_) (fun c => ?_)
            · rw [if_pos c] at h
              refine J.iinc 5 (v := (1 : Int32)) (lv := [(4, .int (v4 + (1 : Int32))), (5, .int (0 : Int32)), (0, jr G 109), (1, .int v1), (2, .int v2), (3, .int v3)]) d_M_waitsFor_158 rfl ki_1 (by decide) rfl ?_
              refine J.goto 5 d_M_waitsFor_161 rfl ?_
              exact J.sub (ls' := [(0, jr G 109), (1, .int v1), (2, .int v2), (3, .int v3), (4, .int (v4 + (1 : Int32)))]) [2, 3, 4, 5, 0] rfl (ih v3 (v4 + (1 : Int32)) m _ h)
            · rw [if_neg c] at h
              refine J.aload_n 1 d_M_waitsFor_122 rfl rfl ?_
              refine J.getF (n := 124) hG d_M_waitsFor_123 fl_M_57 ck_109_37 rfl ?_
              refine J.iload 5 d_M_waitsFor_126 rfl ?_
              obtain ⟨x4, ex4, g, h⟩ := jld_some h
              refine J.il hG d_M_waitsFor_128 g ex4 ?_
              refine J.nop (pc' := 129) rfl ?_
              refine J.iload_n 2 d_M_waitsFor_129 rfl rfl ?_
              refine J.ishr d_M_waitsFor_130 ?_
              refine J.iconst (v := (1 : Int32)) d_M_waitsFor_131 ki_1 ?_
              refine J.iand d_M_waitsFor_132 ?_
              refine J.iconst (v := (1 : Int32)) d_M_waitsFor_133 ki_1 ?_
              refine J.icmp_ne 158 d_M_waitsFor_134 rfl (fun c => ?_) (fun c => ?_)
              · rw [if_neg c] at h
                refine J.iinc 5 (v := (1 : Int32)) (lv := [(4, .int (v4 + (1 : Int32))), (5, .int (0 : Int32)), (0, jr G 109), (1, .int v1), (2, .int v2), (3, .int v3)]) d_M_waitsFor_158 rfl ki_1 (by decide) rfl ?_
                refine J.goto 5 d_M_waitsFor_161 rfl ?_
                exact J.sub (ls' := [(0, jr G 109), (1, .int v1), (2, .int v2), (3, .int v3), (4, .int (v4 + (1 : Int32)))]) [2, 3, 4, 5, 0] rfl (ih v3 (v4 + (1 : Int32)) m _ h)
              · rw [if_pos c] at h
                refine J.aload_n 1 d_M_waitsFor_137 rfl rfl ?_
                refine J.getF (n := 135) hG d_M_waitsFor_138 fl_M_90 ck_109_53 rfl ?_
                refine J.nop (pc' := 141) rfl ?_
                refine J.iload_n 2 d_M_waitsFor_141 rfl rfl ?_
                obtain ⟨x5, ex5, g, h⟩ := jld_some h
                refine J.il hG d_M_waitsFor_142 g ex5 ?_
                refine J.iload 5 d_M_waitsFor_143 rfl ?_
                refine J.ishr d_M_waitsFor_145 ?_
                refine J.iconst (v := (1 : Int32)) d_M_waitsFor_146 ki_1 ?_
                refine J.iand d_M_waitsFor_147 ?_
                refine J.if_ne 158 d_M_waitsFor_148 rfl (fun c => ?_) (fun c => ?_)
                · rw [if_neg c] at h
                  refine J.iinc 5 (v := (1 : Int32)) (lv := [(4, .int (v4 + (1 : Int32))), (5, .int (0 : Int32)), (0, jr G 109), (1, .int v1), (2, .int v2), (3, .int v3)]) d_M_waitsFor_158 rfl ki_1 (by decide) rfl ?_
                  refine J.goto 5 d_M_waitsFor_161 rfl ?_
                  exact J.sub (ls' := [(0, jr G 109), (1, .int v1), (2, .int v2), (3, .int v3), (4, .int (v4 + (1 : Int32)))]) [2, 3, 4, 5, 0] rfl (ih v3 (v4 + (1 : Int32)) m _ h)
                · rw [if_pos c] at h
                  refine J.iload_n 4 d_M_waitsFor_151 rfl rfl ?_
                  refine J.nop (pc' := 152) rfl ?_
                  refine J.iconst (v := (1 : Int32)) d_M_waitsFor_152 ki_1 ?_
                  refine J.iload 5 d_M_waitsFor_153 rfl ?_
                  refine J.ishl d_M_waitsFor_155 ?_
                  refine J.ior d_M_waitsFor_156 ?_
                  refine J.istore_n (lv := [(3, .int (v3 ||| ((1 : Int32) <<< (v4 &&& 31)))), (5, .int (0 : Int32)), (0, jr G 109), (1, .int v1), (2, .int v2), (4, .int v4)]) d_M_waitsFor_157 rfl (by decide) rfl ?_
                  refine J.iinc 5 (v := (1 : Int32)) (lv := [(4, .int (v4 + (1 : Int32))), (3, .int (v3 ||| ((1 : Int32) <<< (v4 &&& 31)))), (5, .int (0 : Int32)), (0, jr G 109), (1, .int v1), (2, .int v2)]) d_M_waitsFor_158 rfl ki_1 (by decide) rfl ?_
                  refine J.goto 5 d_M_waitsFor_161 rfl ?_
                  exact J.sub (ls' := [(0, jr G 109), (1, .int v1), (2, .int v2), (3, .int (v3 ||| ((1 : Int32) <<< (v4 &&& 31)))), (4, .int (v4 + (1 : Int32)))]) [3, 4, 5, 1, 0] rfl (ih (v3 ||| ((1 : Int32) <<< (v4 &&& 31))) (v4 + (1 : Int32)) m _ h)
          · rw [if_pos c] at h
            refine J.aload_n 0 d_M_waitsFor_95 rfl rfl ?_
            refine J.getF (n := 128) hG d_M_waitsFor_96 fl_M_69 ck_109_41 rfl ?_
            refine J.nop (pc' := 99) rfl ?_
            refine J.iload_n 2 d_M_waitsFor_99 rfl rfl ?_
            obtain ⟨x6, ex6, g, h⟩ := jld_some h
            refine J.il hG d_M_waitsFor_100 g ex6 ?_
            refine J.iload 4 d_M_waitsFor_101 rfl ?_
            refine J.ishr d_M_waitsFor_103 ?_
            refine J.iconst (v := (1 : Int32)) d_M_waitsFor_104 ki_1 ?_
            refine J.iand d_M_waitsFor_105 ?_
            refine J.iconst (v := (1 : Int32)) d_M_waitsFor_106 ki_1 ?_
            refine J.icmp_ne 114 d_M_waitsFor_107 rfl (fun c => ?_) (fun c => ?_)
            · rw [if_neg c] at h
              refine J.iconst (v := (0 : Int32)) d_M_waitsFor_114 ki_0 ?_
              refine J.istore (lv := [(5, .int (0 : Int32)), (0, jr G 109), (1, .int v1), (2, .int v2), (3, .int v3), (4, .int v4)]) d_M_waitsFor_115 (by decide) rfl ?_
              refine J.iload 0 d_M_waitsFor_117 rfl ?_
              refine J.if_eq 158 d_M_waitsFor_119 rfl (fun c => ?_) (fun c => ?_)
              · rw [if_pos c] at h
                refine J.iinc 5 (v := (1 : Int32)) (lv := [(4, .int (v4 + (1 : Int32))), (5, .int (0 : Int32)), (0, jr G 109), (1, .int v1), (2, .int v2), (3, .int v3)]) d_M_waitsFor_158 rfl ki_1 (by decide) rfl ?_
                refine J.goto 5 d_M_waitsFor_161 rfl ?_
                exact J.sub (ls' := [(0, jr G 109), (1, .int v1), (2, .int v2), (3, .int v3), (4, .int (v4 + (1 : Int32)))]) [2, 3, 4, 5, 0] rfl (ih v3 (v4 + (1 : Int32)) m _ h)
              · rw [if_neg c] at h
                refine J.aload_n 1 d_M_waitsFor_122 rfl rfl ?_
                refine J.getF (n := 124) hG d_M_waitsFor_123 fl_M_57 ck_109_37 rfl ?_
                refine J.iload 5 d_M_waitsFor_126 rfl ?_
                obtain ⟨x7, ex7, g, h⟩ := jld_some h
                refine J.il hG d_M_waitsFor_128 g ex7 ?_
                refine J.nop (pc' := 129) rfl ?_
                refine J.iload_n 2 d_M_waitsFor_129 rfl rfl ?_
                refine J.ishr d_M_waitsFor_130 ?_
                refine J.iconst (v := (1 : Int32)) d_M_waitsFor_131 ki_1 ?_
                refine J.iand d_M_waitsFor_132 ?_
                refine J.iconst (v := (1 : Int32)) d_M_waitsFor_133 ki_1 ?_
                refine J.icmp_ne 158 d_M_waitsFor_134 rfl (fun c => ?_) (fun c => ?_)
                · rw [if_neg c] at h
                  refine J.iinc 5 (v := (1 : Int32)) (lv := [(4, .int (v4 + (1 : Int32))), (5, .int (0 : Int32)), (0, jr G 109), (1, .int v1), (2, .int v2), (3, .int v3)]) d_M_waitsFor_158 rfl ki_1 (by decide) rfl ?_
                  refine J.goto 5 d_M_waitsFor_161 rfl ?_
                  exact J.sub (ls' := [(0, jr G 109), (1, .int v1), (2, .int v2), (3, .int v3), (4, .int (v4 + (1 : Int32)))]) [2, 3, 4, 5, 0] rfl (ih v3 (v4 + (1 : Int32)) m _ h)
                · rw [if_pos c] at h
                  refine J.aload_n 1 d_M_waitsFor_137 rfl rfl ?_
                  refine J.getF (n := 135) hG d_M_waitsFor_138 fl_M_90 ck_109_53 rfl ?_
                  refine J.nop (pc' := 141) rfl ?_
                  refine J.iload_n 2 d_M_waitsFor_141 rfl rfl ?_
                  obtain ⟨x8, ex8, g, h⟩ := jld_some h
                  refine J.il hG d_M_waitsFor_142 g ex8 ?_
                  refine J.iload 5 d_M_waitsFor_143 rfl ?_
                  refine J.ishr d_M_waitsFor_145 ?_
                  refine J.iconst (v := (1 : Int32)) d_M_waitsFor_146 ki_1 ?_
                  refine J.iand d_M_waitsFor_147 ?_
                  refine J.if_ne 158 d_M_waitsFor_148 rfl (fun c => ?_) (fun c => ?_)
                  · rw [if_neg c] at h
                    refine J.iinc 5 (v := (1 : Int32)) (lv := [(4, .int (v4 + (1 : Int32))), (5, .int (0 : Int32)), (0, jr G 109), (1, .int v1), (2, .int v2), (3, .int v3)]) d_M_waitsFor_158 rfl ki_1 (by decide) rfl ?_
                    refine J.goto 5 d_M_waitsFor_161 rfl ?_
                    exact J.sub (ls' := [(0, jr G 109), (1, .int v1), (2, .int v2), (3, .int v3), (4, .int (v4 + (1 : Int32)))]) [2, 3, 4, 5, 0] rfl (ih v3 (v4 + (1 : Int32)) m _ h)
                  · rw [if_pos c] at h
                    refine J.iload_n 4 d_M_waitsFor_151 rfl rfl ?_
                    refine J.nop (pc' := 152) rfl ?_
                    refine J.iconst (v := (1 : Int32)) d_M_waitsFor_152 ki_1 ?_
                    refine J.iload 5 d_M_waitsFor_153 rfl ?_
                    refine J.ishl d_M_waitsFor_155 ?_
                    refine J.ior d_M_waitsFor_156 ?_
                    refine J.istore_n (lv := [(3, .int (v3 ||| ((1 : Int32) <<< (v4 &&& 31)))), (5, .int (0 : Int32)), (0, jr G 109), (1, .int v1), (2, .int v2), (4, .int v4)]) d_M_waitsFor_157 rfl (by decide) rfl ?_
                    refine J.iinc 5 (v := (1 : Int32)) (lv := [(4, .int (v4 + (1 : Int32))), (3, .int (v3 ||| ((1 : Int32) <<< (v4 &&& 31)))), (5, .int (0 : Int32)), (0, jr G 109), (1, .int v1), (2, .int v2)]) d_M_waitsFor_158 rfl ki_1 (by decide) rfl ?_
                    refine J.goto 5 d_M_waitsFor_161 rfl ?_
                    exact J.sub (ls' := [(0, jr G 109), (1, .int v1), (2, .int v2), (3, .int (v3 ||| ((1 : Int32) <<< (v4 &&& 31)))), (4, .int (v4 + (1 : Int32)))]) [3, 4, 5, 1, 0] rfl (ih (v3 ||| ((1 : Int32) <<< (v4 &&& 31))) (v4 + (1 : Int32)) m _ h)
            · rw [if_pos c] at h
              refine J.nop (pc' := 110) rfl ?_
              refine J.iconst (v := (1 : Int32)) d_M_waitsFor_110 ki_1 ?_
              refine J.goto 115 d_M_waitsFor_111 rfl ?_
              refine J.istore (lv := [(5, .int (1 : Int32)), (0, jr G 109), (1, .int v1), (2, .int v2), (3, .int v3), (4, .int v4)]) d_M_waitsFor_115 (by decide) rfl ?_
              refine J.iload 0 d_M_waitsFor_117 rfl ?_
              refine J.if_eq 158 d_M_waitsFor_119 rfl (fun c => ?_) (fun c => ?_)
              · rw [if_pos c] at h
                refine J.iinc 5 (v := (1 : Int32)) (lv := [(4, .int (v4 + (1 : Int32))), (5, .int (1 : Int32)), (0, jr G 109), (1, .int v1), (2, .int v2), (3, .int v3)]) d_M_waitsFor_158 rfl ki_1 (by decide) rfl ?_
                refine J.goto 5 d_M_waitsFor_161 rfl ?_
                exact J.sub (ls' := [(0, jr G 109), (1, .int v1), (2, .int v2), (3, .int v3), (4, .int (v4 + (1 : Int32)))]) [2, 3, 4, 5, 0] rfl (ih v3 (v4 + (1 : Int32)) m _ h)
              · rw [if_neg c] at h
                refine J.aload_n 1 d_M_waitsFor_122 rfl rfl ?_
                refine J.getF (n := 124) hG d_M_waitsFor_123 fl_M_57 ck_109_37 rfl ?_
                refine J.iload 5 d_M_waitsFor_126 rfl ?_
                obtain ⟨x9, ex9, g, h⟩ := jld_some h
                refine J.il hG d_M_waitsFor_128 g ex9 ?_
                refine J.iload_n 2 d_M_waitsFor_129 rfl rfl ?_
                refine J.nop (pc' := 130) rfl ?_
                refine J.ishr d_M_waitsFor_130 ?_
                refine J.iconst (v := (1 : Int32)) d_M_waitsFor_131 ki_1 ?_
                refine J.iand d_M_waitsFor_132 ?_
                refine J.iconst (v := (1 : Int32)) d_M_waitsFor_133 ki_1 ?_
                refine J.icmp_ne 158 d_M_waitsFor_134 rfl (fun c => ?_) (fun c => ?_)
                · rw [if_neg c] at h
                  refine J.iinc 5 (v := (1 : Int32)) (lv := [(4, .int (v4 + (1 : Int32))), (5, .int (1 : Int32)), (0, jr G 109), (1, .int v1), (2, .int v2), (3, .int v3)]) d_M_waitsFor_158 rfl ki_1 (by decide) rfl ?_
                  refine J.goto 5 d_M_waitsFor_161 rfl ?_
                  exact J.sub (ls' := [(0, jr G 109), (1, .int v1), (2, .int v2), (3, .int v3), (4, .int (v4 + (1 : Int32)))]) [2, 3, 4, 5, 0] rfl (ih v3 (v4 + (1 : Int32)) m _ h)
                · rw [if_pos c] at h
                  refine J.aload_n 1 d_M_waitsFor_137 rfl rfl ?_
                  refine J.getF (n := 135) hG d_M_waitsFor_138 fl_M_90 ck_109_53 rfl ?_
                  refine J.iload_n 2 d_M_waitsFor_141 rfl rfl ?_
                  refine J.nop (pc' := 142) rfl ?_
                  obtain ⟨x10, ex10, g, h⟩ := jld_some h
                  refine J.il hG d_M_waitsFor_142 g ex10 ?_
                  refine J.iload 5 d_M_waitsFor_143 rfl ?_
                  refine J.ishr d_M_waitsFor_145 ?_
                  refine J.iconst (v := (1 : Int32)) d_M_waitsFor_146 ki_1 ?_
                  refine J.iand d_M_waitsFor_147 ?_
                  refine J.if_ne 158 d_M_waitsFor_148 rfl (fun c => ?_) (fun c => ?_)
                  · rw [if_neg c] at h
                    refine J.iinc 5 (v := (1 : Int32)) (lv := [(4, .int (v4 + (1 : Int32))), (5, .int (1 : Int32)), (0, jr G 109), (1, .int v1), (2, .int v2), (3, .int v3)]) d_M_waitsFor_158 rfl ki_1 (by decide) rfl ?_
                    refine J.goto 5 d_M_waitsFor_161 rfl ?_
                    exact J.sub (ls' := [(0, jr G 109), (1, .int v1), (2, .int v2), (3, .int v3), (4, .int (v4 + (1 : Int32)))]) [2, 3, 4, 5, 0] rfl (ih v3 (v4 + (1 : Int32)) m _ h)
                  · rw [if_pos c] at h
                    refine J.iload_n 4 d_M_waitsFor_151 rfl rfl ?_
                    refine J.iconst (v := (1 : Int32)) d_M_waitsFor_152 ki_1 ?_
                    refine J.nop (pc' := 153) rfl ?_
                    refine J.iload 5 d_M_waitsFor_153 rfl ?_
                    refine J.ishl d_M_waitsFor_155 ?_
                    refine J.ior d_M_waitsFor_156 ?_
                    refine J.istore_n (lv := [(3, .int (v3 ||| ((1 : Int32) <<< (v4 &&& 31)))), (5, .int (1 : Int32)), (0, jr G 109), (1, .int v1), (2, .int v2), (4, .int v4)]) d_M_waitsFor_157 rfl (by decide) rfl ?_
                    refine J.iinc 5 (v := (1 : Int32)) (lv := [(4, .int (v4 + (1 : Int32))), (3, .int (v3 ||| ((1 : Int32) <<< (v4 &&& 31)))), (5, .int (1 : Int32)), (0, jr G 109), (1, .int v1), (2, .int v2)]) d_M_waitsFor_158 rfl ki_1 (by decide) rfl ?_
                    refine J.goto 5 d_M_waitsFor_161 rfl ?_
                    exact J.sub (ls' := [(0, jr G 109), (1, .int v1), (2, .int v2), (3, .int (v3 ||| ((1 : Int32) <<< (v4 &&& 31)))), (4, .int (v4 + (1 : Int32)))]) [3, 4, 5, 1, 0] rfl (ih (v3 ||| ((1 : Int32) <<< (v4 &&& 31))) (v4 + (1 : Int32)) m _ h)
        · rw [if_pos c] at h
          refine J.aload_n 0 d_M_waitsFor_55 rfl rfl ?_
          refine J.getF (n := 125) hG d_M_waitsFor_56 fl_M_60 ck_109_38 rfl ?_
          refine J.nop (pc' := 59) rfl ?_
          refine J.iload_n 2 d_M_waitsFor_59 rfl rfl ?_
          obtain ⟨x11, ex11, g, h⟩ := jld_some h
          refine J.il hG d_M_waitsFor_60 g ex11 ?_
          refine J.iload 4 d_M_waitsFor_61 rfl ?_
          refine J.icmp_eq 77 d_M_waitsFor_63 rfl (fun c => ?_) (fun c => ?_)
          · rw [if_pos c] at h
            refine J.iconst (v := (1 : Int32)) d_M_waitsFor_77 ki_1 ?_
            refine J.goto 115 d_M_waitsFor_78 rfl ?_
            refine J.istore (lv := [(5, .int (1 : Int32)), (0, jr G 109), (1, .int v1), (2, .int v2), (3, .int v3), (4, .int v4)]) d_M_waitsFor_115 (by decide) rfl ?_
            refine J.iload 0 d_M_waitsFor_117 rfl ?_
            refine J.if_eq 158 d_M_waitsFor_119 rfl (fun c => ?_) (fun c => ?_)
            · rw [if_pos c] at h
              refine J.iinc 5 (v := (1 : Int32)) (lv := [(4, .int (v4 + (1 : Int32))), (5, .int (1 : Int32)), (0, jr G 109), (1, .int v1), (2, .int v2), (3, .int v3)]) d_M_waitsFor_158 rfl ki_1 (by decide) rfl ?_
              refine J.goto 5 d_M_waitsFor_161 rfl ?_
              exact J.sub (ls' := [(0, jr G 109), (1, .int v1), (2, .int v2), (3, .int v3), (4, .int (v4 + (1 : Int32)))]) [2, 3, 4, 5, 0] rfl (ih v3 (v4 + (1 : Int32)) m _ h)
            · rw [if_neg c] at h
              refine J.aload_n 1 d_M_waitsFor_122 rfl rfl ?_
              refine J.getF (n := 124) hG d_M_waitsFor_123 fl_M_57 ck_109_37 rfl ?_
              refine J.iload 5 d_M_waitsFor_126 rfl ?_
              obtain ⟨x12, ex12, g, h⟩ := jld_some h
              refine J.il hG d_M_waitsFor_128 g ex12 ?_
              refine J.iload_n 2 d_M_waitsFor_129 rfl rfl ?_
              refine J.nop (pc' := 130) rfl ?_
              refine J.ishr d_M_waitsFor_130 ?_
              refine J.iconst (v := (1 : Int32)) d_M_waitsFor_131 ki_1 ?_
              refine J.iand d_M_waitsFor_132 ?_
              refine J.iconst (v := (1 : Int32)) d_M_waitsFor_133 ki_1 ?_
              refine J.icmp_ne 158 d_M_waitsFor_134 rfl (fun c => ?_) (fun c => ?_)
              · rw [if_neg c] at h
                refine J.iinc 5 (v := (1 : Int32)) (lv := [(4, .int (v4 + (1 : Int32))), (5, .int (1 : Int32)), (0, jr G 109), (1, .int v1), (2, .int v2), (3, .int v3)]) d_M_waitsFor_158 rfl ki_1 (by decide) rfl ?_
                refine J.goto 5 d_M_waitsFor_161 rfl ?_
                exact J.sub (ls' := [(0, jr G 109), (1, .int v1), (2, .int v2), (3, .int v3), (4, .int (v4 + (1 : Int32)))]) [2, 3, 4, 5, 0] rfl (ih v3 (v4 + (1 : Int32)) m _ h)
              · rw [if_pos c] at h
                refine J.aload_n 1 d_M_waitsFor_137 rfl rfl ?_
                refine J.getF (n := 135) hG d_M_waitsFor_138 fl_M_90 ck_109_53 rfl ?_
                refine J.iload_n 2 d_M_waitsFor_141 rfl rfl ?_
                refine J.nop (pc' := 142) rfl ?_
                obtain ⟨x13, ex13, g, h⟩ := jld_some h
                refine J.il hG d_M_waitsFor_142 g ex13 ?_
                refine J.iload 5 d_M_waitsFor_143 rfl ?_
                refine J.ishr d_M_waitsFor_145 ?_
                refine J.iconst (v := (1 : Int32)) d_M_waitsFor_146 ki_1 ?_
                refine J.iand d_M_waitsFor_147 ?_
                refine J.if_ne 158 d_M_waitsFor_148 rfl (fun c => ?_) (fun c => ?_)
                · rw [if_neg c] at h
                  refine J.iinc 5 (v := (1 : Int32)) (lv := [(4, .int (v4 + (1 : Int32))), (5, .int (1 : Int32)), (0, jr G 109), (1, .int v1), (2, .int v2), (3, .int v3)]) d_M_waitsFor_158 rfl ki_1 (by decide) rfl ?_
                  refine J.goto 5 d_M_waitsFor_161 rfl ?_
                  exact J.sub (ls' := [(0, jr G 109), (1, .int v1), (2, .int v2), (3, .int v3), (4, .int (v4 + (1 : Int32)))]) [2, 3, 4, 5, 0] rfl (ih v3 (v4 + (1 : Int32)) m _ h)
                · rw [if_pos c] at h
                  refine J.iload_n 4 d_M_waitsFor_151 rfl rfl ?_
                  refine J.iconst (v := (1 : Int32)) d_M_waitsFor_152 ki_1 ?_
                  refine J.nop (pc' := 153) rfl ?_
                  refine J.iload 5 d_M_waitsFor_153 rfl ?_
                  refine J.ishl d_M_waitsFor_155 ?_
                  refine J.ior d_M_waitsFor_156 ?_
                  refine J.istore_n (lv := [(3, .int (v3 ||| ((1 : Int32) <<< (v4 &&& 31)))), (5, .int (1 : Int32)), (0, jr G 109), (1, .int v1), (2, .int v2), (4, .int v4)]) d_M_waitsFor_157 rfl (by decide) rfl ?_
                  refine J.iinc 5 (v := (1 : Int32)) (lv := [(4, .int (v4 + (1 : Int32))), (3, .int (v3 ||| ((1 : Int32) <<< (v4 &&& 31)))), (5, .int (1 : Int32)), (0, jr G 109), (1, .int v1), (2, .int v2)]) d_M_waitsFor_158 rfl ki_1 (by decide) rfl ?_
                  refine J.goto 5 d_M_waitsFor_161 rfl ?_
                  exact J.sub (ls' := [(0, jr G 109), (1, .int v1), (2, .int v2), (3, .int (v3 ||| ((1 : Int32) <<< (v4 &&& 31)))), (4, .int (v4 + (1 : Int32)))]) [3, 4, 5, 1, 0] rfl (ih (v3 ||| ((1 : Int32) <<< (v4 &&& 31))) (v4 + (1 : Int32)) m _ h)
          · rw [if_neg c] at h
            refine J.aload_n 0 d_M_waitsFor_66 rfl rfl ?_
            refine J.getF (n := 126) hG d_M_waitsFor_67 fl_M_63 ck_109_39 rfl ?_
            refine J.iload_n 2 d_M_waitsFor_70 rfl rfl ?_
            obtain ⟨x14, ex14, g, h⟩ := jld_some h
            refine J.il hG d_M_waitsFor_71 g ex14 ?_
            refine J.nop (pc' := 72) rfl ?_
            refine J.iload 4 d_M_waitsFor_72 rfl ?_
            refine J.icmp_ne 81 d_M_waitsFor_74 rfl (fun c => ?_) (fun c => ?_)
            · rw [if_neg c] at h
              refine J.iconst (v := (0 : Int32)) d_M_waitsFor_81 ki_0 ?_
              refine J.goto 115 d_M_waitsFor_82 rfl ?_
              refine J.istore (lv := [(5, .int (0 : Int32)), (0, jr G 109), (1, .int v1), (2, .int v2), (3, .int v3), (4, .int v4)]) d_M_waitsFor_115 (by decide) rfl ?_
              refine J.iload 0 d_M_waitsFor_117 rfl ?_
              refine J.if_eq 158 d_M_waitsFor_119 rfl (fun c => ?_) (fun c => ?_)
              · rw [if_pos c] at h
                refine J.iinc 5 (v := (1 : Int32)) (lv := [(4, .int (v4 + (1 : Int32))), (5, .int (0 : Int32)), (0, jr G 109), (1, .int v1), (2, .int v2), (3, .int v3)]) d_M_waitsFor_158 rfl ki_1 (by decide) rfl ?_
                refine J.goto 5 d_M_waitsFor_161 rfl ?_
                exact J.sub (ls' := [(0, jr G 109), (1, .int v1), (2, .int v2), (3, .int v3), (4, .int (v4 + (1 : Int32)))]) [2, 3, 4, 5, 0] rfl (ih v3 (v4 + (1 : Int32)) m _ h)
              · rw [if_neg c] at h
                refine J.aload_n 1 d_M_waitsFor_122 rfl rfl ?_
                refine J.getF (n := 124) hG d_M_waitsFor_123 fl_M_57 ck_109_37 rfl ?_
                refine J.iload 5 d_M_waitsFor_126 rfl ?_
                obtain ⟨x15, ex15, g, h⟩ := jld_some h
                refine J.il hG d_M_waitsFor_128 g ex15 ?_
                refine J.iload_n 2 d_M_waitsFor_129 rfl rfl ?_
                refine J.nop (pc' := 130) rfl ?_
                refine J.ishr d_M_waitsFor_130 ?_
                refine J.iconst (v := (1 : Int32)) d_M_waitsFor_131 ki_1 ?_
                refine J.iand d_M_waitsFor_132 ?_
                refine J.iconst (v := (1 : Int32)) d_M_waitsFor_133 ki_1 ?_
                refine J.icmp_ne 158 d_M_waitsFor_134 rfl (fun c => ?_) (fun c => ?_)
                · rw [if_neg c] at h
                  refine J.iinc 5 (v := (1 : Int32)) (lv := [(4, .int (v4 + (1 : Int32))), (5, .int (0 : Int32)), (0, jr G 109), (1, .int v1), (2, .int v2), (3, .int v3)]) d_M_waitsFor_158 rfl ki_1 (by decide) rfl ?_
                  refine J.goto 5 d_M_waitsFor_161 rfl ?_
                  exact J.sub (ls' := [(0, jr G 109), (1, .int v1), (2, .int v2), (3, .int v3), (4, .int (v4 + (1 : Int32)))]) [2, 3, 4, 5, 0] rfl (ih v3 (v4 + (1 : Int32)) m _ h)
                · rw [if_pos c] at h
                  refine J.aload_n 1 d_M_waitsFor_137 rfl rfl ?_
                  refine J.getF (n := 135) hG d_M_waitsFor_138 fl_M_90 ck_109_53 rfl ?_
                  refine J.iload_n 2 d_M_waitsFor_141 rfl rfl ?_
                  refine J.nop (pc' := 142) rfl ?_
                  obtain ⟨x16, ex16, g, h⟩ := jld_some h
                  refine J.il hG d_M_waitsFor_142 g ex16 ?_
                  refine J.iload 5 d_M_waitsFor_143 rfl ?_
                  refine J.ishr d_M_waitsFor_145 ?_
                  refine J.iconst (v := (1 : Int32)) d_M_waitsFor_146 ki_1 ?_
                  refine J.iand d_M_waitsFor_147 ?_
                  refine J.if_ne 158 d_M_waitsFor_148 rfl (fun c => ?_) (fun c => ?_)
                  · rw [if_neg c] at h
                    refine J.iinc 5 (v := (1 : Int32)) (lv := [(4, .int (v4 + (1 : Int32))), (5, .int (0 : Int32)), (0, jr G 109), (1, .int v1), (2, .int v2), (3, .int v3)]) d_M_waitsFor_158 rfl ki_1 (by decide) rfl ?_
                    refine J.goto 5 d_M_waitsFor_161 rfl ?_
                    exact J.sub (ls' := [(0, jr G 109), (1, .int v1), (2, .int v2), (3, .int v3), (4, .int (v4 + (1 : Int32)))]) [2, 3, 4, 5, 0] rfl (ih v3 (v4 + (1 : Int32)) m _ h)
                  · rw [if_pos c] at h
                    refine J.iload_n 4 d_M_waitsFor_151 rfl rfl ?_
                    refine J.iconst (v := (1 : Int32)) d_M_waitsFor_152 ki_1 ?_
                    refine J.nop (pc' := 153) rfl ?_
                    refine J.iload 5 d_M_waitsFor_153 rfl ?_
                    refine J.ishl d_M_waitsFor_155 ?_
                    refine J.ior d_M_waitsFor_156 ?_
                    refine J.istore_n (lv := [(3, .int (v3 ||| ((1 : Int32) <<< (v4 &&& 31)))), (5, .int (0 : Int32)), (0, jr G 109), (1, .int v1), (2, .int v2), (4, .int v4)]) d_M_waitsFor_157 rfl (by decide) rfl ?_
                    refine J.iinc 5 (v := (1 : Int32)) (lv := [(4, .int (v4 + (1 : Int32))), (3, .int (v3 ||| ((1 : Int32) <<< (v4 &&& 31)))), (5, .int (0 : Int32)), (0, jr G 109), (1, .int v1), (2, .int v2)]) d_M_waitsFor_158 rfl ki_1 (by decide) rfl ?_
                    refine J.goto 5 d_M_waitsFor_161 rfl ?_
                    exact J.sub (ls' := [(0, jr G 109), (1, .int v1), (2, .int v2), (3, .int (v3 ||| ((1 : Int32) <<< (v4 &&& 31)))), (4, .int (v4 + (1 : Int32)))]) [3, 4, 5, 1, 0] rfl (ih (v3 ||| ((1 : Int32) <<< (v4 &&& 31))) (v4 + (1 : Int32)) m _ h)
            · rw [if_pos c] at h
              refine J.iconst (v := (1 : Int32)) d_M_waitsFor_77 ki_1 ?_
              refine J.goto 115 d_M_waitsFor_78 rfl ?_
              refine J.istore (lv := [(5, .int (1 : Int32)), (0, jr G 109), (1, .int v1), (2, .int v2), (3, .int v3), (4, .int v4)]) d_M_waitsFor_115 (by decide) rfl ?_
              refine J.iload 0 d_M_waitsFor_117 rfl ?_
              refine J.if_eq 158 d_M_waitsFor_119 rfl (fun c => ?_) (fun c => ?_)
              · rw [if_pos c] at h
                refine J.iinc 5 (v := (1 : Int32)) (lv := [(4, .int (v4 + (1 : Int32))), (5, .int (1 : Int32)), (0, jr G 109), (1, .int v1), (2, .int v2), (3, .int v3)]) d_M_waitsFor_158 rfl ki_1 (by decide) rfl ?_
                refine J.goto 5 d_M_waitsFor_161 rfl ?_
                exact J.sub (ls' := [(0, jr G 109), (1, .int v1), (2, .int v2), (3, .int v3), (4, .int (v4 + (1 : Int32)))]) [2, 3, 4, 5, 0] rfl (ih v3 (v4 + (1 : Int32)) m _ h)
              · rw [if_neg c] at h
                refine J.aload_n 1 d_M_waitsFor_122 rfl rfl ?_
                refine J.getF (n := 124) hG d_M_waitsFor_123 fl_M_57 ck_109_37 rfl ?_
                refine J.iload 5 d_M_waitsFor_126 rfl ?_
                obtain ⟨x17, ex17, g, h⟩ := jld_some h
                refine J.il hG d_M_waitsFor_128 g ex17 ?_
                refine J.iload_n 2 d_M_waitsFor_129 rfl rfl ?_
                refine J.nop (pc' := 130) rfl ?_
                refine J.ishr d_M_waitsFor_130 ?_
                refine J.iconst (v := (1 : Int32)) d_M_waitsFor_131 ki_1 ?_
                refine J.iand d_M_waitsFor_132 ?_
                refine J.iconst (v := (1 : Int32)) d_M_waitsFor_133 ki_1 ?_
                refine J.icmp_ne 158 d_M_waitsFor_134 rfl (fun c => ?_) (fun c => ?_)
                · rw [if_neg c] at h
                  refine J.iinc 5 (v := (1 : Int32)) (lv := [(4, .int (v4 + (1 : Int32))), (5, .int (1 : Int32)), (0, jr G 109), (1, .int v1), (2, .int v2), (3, .int v3)]) d_M_waitsFor_158 rfl ki_1 (by decide) rfl ?_
                  refine J.goto 5 d_M_waitsFor_161 rfl ?_
                  exact J.sub (ls' := [(0, jr G 109), (1, .int v1), (2, .int v2), (3, .int v3), (4, .int (v4 + (1 : Int32)))]) [2, 3, 4, 5, 0] rfl (ih v3 (v4 + (1 : Int32)) m _ h)
                · rw [if_pos c] at h
                  refine J.aload_n 1 d_M_waitsFor_137 rfl rfl ?_
                  refine J.getF (n := 135) hG d_M_waitsFor_138 fl_M_90 ck_109_53 rfl ?_
                  refine J.iload_n 2 d_M_waitsFor_141 rfl rfl ?_
                  refine J.nop (pc' := 142) rfl ?_
                  obtain ⟨x18, ex18, g, h⟩ := jld_some h
                  refine J.il hG d_M_waitsFor_142 g ex18 ?_
                  refine J.iload 5 d_M_waitsFor_143 rfl ?_
                  refine J.ishr d_M_waitsFor_145 ?_
                  refine J.iconst (v := (1 : Int32)) d_M_waitsFor_146 ki_1 ?_
                  refine J.iand d_M_waitsFor_147 ?_
                  refine J.if_ne 158 d_M_waitsFor_148 rfl (fun c => ?_) (fun c => ?_)
                  · rw [if_neg c] at h
                    refine J.iinc 5 (v := (1 : Int32)) (lv := [(4, .int (v4 + (1 : Int32))), (5, .int (1 : Int32)), (0, jr G 109), (1, .int v1), (2, .int v2), (3, .int v3)]) d_M_waitsFor_158 rfl ki_1 (by decide) rfl ?_
                    refine J.goto 5 d_M_waitsFor_161 rfl ?_
                    exact J.sub (ls' := [(0, jr G 109), (1, .int v1), (2, .int v2), (3, .int v3), (4, .int (v4 + (1 : Int32)))]) [2, 3, 4, 5, 0] rfl (ih v3 (v4 + (1 : Int32)) m _ h)
                  · rw [if_pos c] at h
                    refine J.iload_n 4 d_M_waitsFor_151 rfl rfl ?_
                    refine J.iconst (v := (1 : Int32)) d_M_waitsFor_152 ki_1 ?_
                    refine J.nop (pc' := 153) rfl ?_
                    refine J.iload 5 d_M_waitsFor_153 rfl ?_
                    refine J.ishl d_M_waitsFor_155 ?_
                    refine J.ior d_M_waitsFor_156 ?_
                    refine J.istore_n (lv := [(3, .int (v3 ||| ((1 : Int32) <<< (v4 &&& 31)))), (5, .int (1 : Int32)), (0, jr G 109), (1, .int v1), (2, .int v2), (4, .int v4)]) d_M_waitsFor_157 rfl (by decide) rfl ?_
                    refine J.iinc 5 (v := (1 : Int32)) (lv := [(4, .int (v4 + (1 : Int32))), (3, .int (v3 ||| ((1 : Int32) <<< (v4 &&& 31)))), (5, .int (1 : Int32)), (0, jr G 109), (1, .int v1), (2, .int v2)]) d_M_waitsFor_158 rfl ki_1 (by decide) rfl ?_
                    refine J.goto 5 d_M_waitsFor_161 rfl ?_
                    exact J.sub (ls' := [(0, jr G 109), (1, .int v1), (2, .int v2), (3, .int (v3 ||| ((1 : Int32) <<< (v4 &&& 31)))), (4, .int (v4 + (1 : Int32)))]) [3, 4, 5, 1, 0] rfl (ih (v3 ||| ((1 : Int32) <<< (v4 &&& 31))) (v4 + (1 : Int32)) m _ h)
      · rw [if_pos c] at h
        refine J.aload_n 0 d_M_waitsFor_21 rfl rfl ?_
        refine J.getF (n := 121) hG d_M_waitsFor_22 fl_M_48 ck_109_34 rfl ?_
        refine J.iload 4 d_M_waitsFor_25 rfl ?_
        obtain ⟨x19, ex19, g, h⟩ := jld_some h
        refine J.il hG d_M_waitsFor_27 g ex19 ?_
        refine J.aload_n 0 d_M_waitsFor_28 rfl rfl ?_
        refine J.getF (n := 121) hG d_M_waitsFor_29 fl_M_48 ck_109_34 rfl ?_
        refine J.iload_n 2 d_M_waitsFor_32 rfl rfl ?_
        refine J.nop (pc' := 33) rfl ?_
        obtain ⟨x20, ex20, g, h⟩ := jld_some h
        refine J.il hG d_M_waitsFor_33 g ex20 ?_
        refine J.icmp_ne 41 d_M_waitsFor_34 rfl (fun c => ?_) (fun c => ?_)
        · rw [if_neg c] at h
          refine J.iconst (v := (0 : Int32)) d_M_waitsFor_41 ki_0 ?_
          refine J.goto 115 d_M_waitsFor_42 rfl ?_
          refine J.istore (lv := [(5, .int (0 : Int32)), (0, jr G 109), (1, .int v1), (2, .int v2), (3, .int v3), (4, .int v4)]) d_M_waitsFor_115 (by decide) rfl ?_
          refine J.iload 0 d_M_waitsFor_117 rfl ?_
          refine J.if_eq 158 d_M_waitsFor_119 rfl (fun c => ?_) (fun c => ?_)
          · rw [if_pos c] at h
            refine J.iinc 5 (v := (1 : Int32)) (lv := [(4, .int (v4 + (1 : Int32))), (5, .int (0 : Int32)), (0, jr G 109), (1, .int v1), (2, .int v2), (3, .int v3)]) d_M_waitsFor_158 rfl ki_1 (by decide) rfl ?_
            refine J.goto 5 d_M_waitsFor_161 rfl ?_
            exact J.sub (ls' := [(0, jr G 109), (1, .int v1), (2, .int v2), (3, .int v3), (4, .int (v4 + (1 : Int32)))]) [2, 3, 4, 5, 0] rfl (ih v3 (v4 + (1 : Int32)) m _ h)
          · rw [if_neg c] at h
            refine J.aload_n 1 d_M_waitsFor_122 rfl rfl ?_
            refine J.getF (n := 124) hG d_M_waitsFor_123 fl_M_57 ck_109_37 rfl ?_
            refine J.iload 5 d_M_waitsFor_126 rfl ?_
            obtain ⟨x21, ex21, g, h⟩ := jld_some h
            refine J.il hG d_M_waitsFor_128 g ex21 ?_
            refine J.iload_n 2 d_M_waitsFor_129 rfl rfl ?_
            refine J.nop (pc' := 130) rfl ?_
            refine J.ishr d_M_waitsFor_130 ?_
            refine J.iconst (v := (1 : Int32)) d_M_waitsFor_131 ki_1 ?_
            refine J.iand d_M_waitsFor_132 ?_
            refine J.iconst (v := (1 : Int32)) d_M_waitsFor_133 ki_1 ?_
            refine J.icmp_ne 158 d_M_waitsFor_134 rfl (fun c => ?_) (fun c => ?_)
            · rw [if_neg c] at h
              refine J.iinc 5 (v := (1 : Int32)) (lv := [(4, .int (v4 + (1 : Int32))), (5, .int (0 : Int32)), (0, jr G 109), (1, .int v1), (2, .int v2), (3, .int v3)]) d_M_waitsFor_158 rfl ki_1 (by decide) rfl ?_
              refine J.goto 5 d_M_waitsFor_161 rfl ?_
              exact J.sub (ls' := [(0, jr G 109), (1, .int v1), (2, .int v2), (3, .int v3), (4, .int (v4 + (1 : Int32)))]) [2, 3, 4, 5, 0] rfl (ih v3 (v4 + (1 : Int32)) m _ h)
            · rw [if_pos c] at h
              refine J.aload_n 1 d_M_waitsFor_137 rfl rfl ?_
              refine J.getF (n := 135) hG d_M_waitsFor_138 fl_M_90 ck_109_53 rfl ?_
              refine J.iload_n 2 d_M_waitsFor_141 rfl rfl ?_
              refine J.nop (pc' := 142) rfl ?_
              obtain ⟨x22, ex22, g, h⟩ := jld_some h
              refine J.il hG d_M_waitsFor_142 g ex22 ?_
              refine J.iload 5 d_M_waitsFor_143 rfl ?_
              refine J.ishr d_M_waitsFor_145 ?_
              refine J.iconst (v := (1 : Int32)) d_M_waitsFor_146 ki_1 ?_
              refine J.iand d_M_waitsFor_147 ?_
              refine J.if_ne 158 d_M_waitsFor_148 rfl (fun c => ?_) (fun c => ?_)
              · rw [if_neg c] at h
                refine J.iinc 5 (v := (1 : Int32)) (lv := [(4, .int (v4 + (1 : Int32))), (5, .int (0 : Int32)), (0, jr G 109), (1, .int v1), (2, .int v2), (3, .int v3)]) d_M_waitsFor_158 rfl ki_1 (by decide) rfl ?_
                refine J.goto 5 d_M_waitsFor_161 rfl ?_
                exact J.sub (ls' := [(0, jr G 109), (1, .int v1), (2, .int v2), (3, .int v3), (4, .int (v4 + (1 : Int32)))]) [2, 3, 4, 5, 0] rfl (ih v3 (v4 + (1 : Int32)) m _ h)
              · rw [if_pos c] at h
                refine J.iload_n 4 d_M_waitsFor_151 rfl rfl ?_
                refine J.iconst (v := (1 : Int32)) d_M_waitsFor_152 ki_1 ?_
                refine J.nop (pc' := 153) rfl ?_
                refine J.iload 5 d_M_waitsFor_153 rfl ?_
                refine J.ishl d_M_waitsFor_155 ?_
                refine J.ior d_M_waitsFor_156 ?_
                refine J.istore_n (lv := [(3, .int (v3 ||| ((1 : Int32) <<< (v4 &&& 31)))), (5, .int (0 : Int32)), (0, jr G 109), (1, .int v1), (2, .int v2), (4, .int v4)]) d_M_waitsFor_157 rfl (by decide) rfl ?_
                refine J.iinc 5 (v := (1 : Int32)) (lv := [(4, .int (v4 + (1 : Int32))), (3, .int (v3 ||| ((1 : Int32) <<< (v4 &&& 31)))), (5, .int (0 : Int32)), (0, jr G 109), (1, .int v1), (2, .int v2)]) d_M_waitsFor_158 rfl ki_1 (by decide) rfl ?_
                refine J.goto 5 d_M_waitsFor_161 rfl ?_
                exact J.sub (ls' := [(0, jr G 109), (1, .int v1), (2, .int v2), (3, .int (v3 ||| ((1 : Int32) <<< (v4 &&& 31)))), (4, .int (v4 + (1 : Int32)))]) [3, 4, 5, 1, 0] rfl (ih (v3 ||| ((1 : Int32) <<< (v4 &&& 31))) (v4 + (1 : Int32)) m _ h)
        · rw [if_pos c] at h
          refine J.iconst (v := (1 : Int32)) d_M_waitsFor_37 ki_1 ?_
          refine J.goto 115 d_M_waitsFor_38 rfl ?_
          refine J.istore (lv := [(5, .int (1 : Int32)), (0, jr G 109), (1, .int v1), (2, .int v2), (3, .int v3), (4, .int v4)]) d_M_waitsFor_115 (by decide) rfl ?_
          refine J.iload 0 d_M_waitsFor_117 rfl ?_
          refine J.if_eq 158 d_M_waitsFor_119 rfl (fun c => ?_) (fun c => ?_)
          · rw [if_pos c] at h
            refine J.iinc 5 (v := (1 : Int32)) (lv := [(4, .int (v4 + (1 : Int32))), (5, .int (1 : Int32)), (0, jr G 109), (1, .int v1), (2, .int v2), (3, .int v3)]) d_M_waitsFor_158 rfl ki_1 (by decide) rfl ?_
            refine J.goto 5 d_M_waitsFor_161 rfl ?_
            exact J.sub (ls' := [(0, jr G 109), (1, .int v1), (2, .int v2), (3, .int v3), (4, .int (v4 + (1 : Int32)))]) [2, 3, 4, 5, 0] rfl (ih v3 (v4 + (1 : Int32)) m _ h)
          · rw [if_neg c] at h
            refine J.aload_n 1 d_M_waitsFor_122 rfl rfl ?_
            refine J.getF (n := 124) hG d_M_waitsFor_123 fl_M_57 ck_109_37 rfl ?_
            refine J.iload 5 d_M_waitsFor_126 rfl ?_
            obtain ⟨x23, ex23, g, h⟩ := jld_some h
            refine J.il hG d_M_waitsFor_128 g ex23 ?_
            refine J.iload_n 2 d_M_waitsFor_129 rfl rfl ?_
            refine J.nop (pc' := 130) rfl ?_
            refine J.ishr d_M_waitsFor_130 ?_
            refine J.iconst (v := (1 : Int32)) d_M_waitsFor_131 ki_1 ?_
            refine J.iand d_M_waitsFor_132 ?_
            refine J.iconst (v := (1 : Int32)) d_M_waitsFor_133 ki_1 ?_
            refine J.icmp_ne 158 d_M_waitsFor_134 rfl (fun c => ?_) (fun c => ?_)
            · rw [if_neg c] at h
              refine J.iinc 5 (v := (1 : Int32)) (lv := [(4, .int (v4 + (1 : Int32))), (5, .int (1 : Int32)), (0, jr G 109), (1, .int v1), (2, .int v2), (3, .int v3)]) d_M_waitsFor_158 rfl ki_1 (by decide) rfl ?_
              refine J.goto 5 d_M_waitsFor_161 rfl ?_
              exact J.sub (ls' := [(0, jr G 109), (1, .int v1), (2, .int v2), (3, .int v3), (4, .int (v4 + (1 : Int32)))]) [2, 3, 4, 5, 0] rfl (ih v3 (v4 + (1 : Int32)) m _ h)
            · rw [if_pos c] at h
              refine J.aload_n 1 d_M_waitsFor_137 rfl rfl ?_
              refine J.getF (n := 135) hG d_M_waitsFor_138 fl_M_90 ck_109_53 rfl ?_
              refine J.iload_n 2 d_M_waitsFor_141 rfl rfl ?_
              refine J.nop (pc' := 142) rfl ?_
              obtain ⟨x24, ex24, g, h⟩ := jld_some h
              refine J.il hG d_M_waitsFor_142 g ex24 ?_
              refine J.iload 5 d_M_waitsFor_143 rfl ?_
              refine J.ishr d_M_waitsFor_145 ?_
              refine J.iconst (v := (1 : Int32)) d_M_waitsFor_146 ki_1 ?_
              refine J.iand d_M_waitsFor_147 ?_
              refine J.if_ne 158 d_M_waitsFor_148 rfl (fun c => ?_) (fun c => ?_)
              · rw [if_neg c] at h
                refine J.iinc 5 (v := (1 : Int32)) (lv := [(4, .int (v4 + (1 : Int32))), (5, .int (1 : Int32)), (0, jr G 109), (1, .int v1), (2, .int v2), (3, .int v3)]) d_M_waitsFor_158 rfl ki_1 (by decide) rfl ?_
                refine J.goto 5 d_M_waitsFor_161 rfl ?_
                exact J.sub (ls' := [(0, jr G 109), (1, .int v1), (2, .int v2), (3, .int v3), (4, .int (v4 + (1 : Int32)))]) [2, 3, 4, 5, 0] rfl (ih v3 (v4 + (1 : Int32)) m _ h)
              · rw [if_pos c] at h
                refine J.iload_n 4 d_M_waitsFor_151 rfl rfl ?_
                refine J.iconst (v := (1 : Int32)) d_M_waitsFor_152 ki_1 ?_
                refine J.nop (pc' := 153) rfl ?_
                refine J.iload 5 d_M_waitsFor_153 rfl ?_
                refine J.ishl d_M_waitsFor_155 ?_
                refine J.ior d_M_waitsFor_156 ?_
                refine J.istore_n (lv := [(3, .int (v3 ||| ((1 : Int32) <<< (v4 &&& 31)))), (5, .int (1 : Int32)), (0, jr G 109), (1, .int v1), (2, .int v2), (4, .int v4)]) d_M_waitsFor_157 rfl (by decide) rfl ?_
                refine J.iinc 5 (v := (1 : Int32)) (lv := [(4, .int (v4 + (1 : Int32))), (3, .int (v3 ||| ((1 : Int32) <<< (v4 &&& 31)))), (5, .int (1 : Int32)), (0, jr G 109), (1, .int v1), (2, .int v2)]) d_M_waitsFor_158 rfl ki_1 (by decide) rfl ?_
                refine J.goto 5 d_M_waitsFor_161 rfl ?_
                exact J.sub (ls' := [(0, jr G 109), (1, .int v1), (2, .int v2), (3, .int (v3 ||| ((1 : Int32) <<< (v4 &&& 31)))), (4, .int (v4 + (1 : Int32)))]) [3, 4, 5, 1, 0] rfl (ih (v3 ||| ((1 : Int32) <<< (v4 &&& 31))) (v4 + (1 : Int32)) m _ h)
theorem c_M_waitsFor {G : jG} (hG : jFul G) {v1 : Int32} {v2 : Int32} {m : jMem} {r : (Int32 × jMem)} (h : f_M_waitsFor v1 v2 m = some r) : jCt G Y_M_waitsFor [jr G 109, .int v1, .int v2] m (jri r) := by
  refine jCt.ov (ls := [(0, jr G 109), (1, .int v1), (2, .int v2)]) mi_M_waitsFor (jAvR (jAvI (jAvI jAvN))) (Nat.le_of_ble_eq_true rfl) ?_ ⟨rfl, rfl⟩
  unfold f_M_waitsFor at h
  refine J.iconst (v := (0 : Int32)) d_M_waitsFor_0 ki_0 ?_
  refine J.istore_n (lv := [(3, .int (0 : Int32)), (0, jr G 109), (1, .int v1), (2, .int v2)]) d_M_waitsFor_1 rfl (by decide) rfl ?_
  refine J.iconst (v := (0 : Int32)) d_M_waitsFor_2 ki_0 ?_
  refine J.istore (lv := [(4, .int (0 : Int32)), (3, .int (0 : Int32)), (0, jr G 109), (1, .int v1), (2, .int v2)]) d_M_waitsFor_3 (by decide) rfl ?_
  refine J.sub (ls' := [(0, jr G 109), (1, .int v1), (2, .int v2), (3, .int (0 : Int32)), (4, .int (0 : Int32))]) [2, 3, 4, 1, 0] rfl ?_
  refine jlp_M_waitsFor_5 hG v1 v2 _ ?_ _ (0 : Int32) (0 : Int32) m _ h
  intro w26 m25 r h
  refine J.iload_n 0 d_M_waitsFor_164 rfl rfl ?_
  cases h
  exact J.iret d_M_waitsFor_165 rfl (vp_nar_int _) rfl

def f_M_isBefore (v1 : Int32) (v2 : Int32) (m : jMem) : Option (Int32 × jMem) :=
  jld 1 m 128 v2 fun x1 =>
  if ((x1 >>> (v1 &&& 31)) &&& (1 : Int32)) = (1 : Int32) then
    some ((1 : Int32), m)
  else
    some ((0 : Int32), m)
theorem c_M_isBefore {G : jG} (hG : jFul G) {v1 : Int32} {v2 : Int32} {m : jMem} {r : (Int32 × jMem)} (h : f_M_isBefore v1 v2 m = some r) : jCt G Y_M_isBefore [jr G 109, .int v1, .int v2] m (jri r) := by
  refine jCt.ov (ls := [(0, jr G 109), (1, .int v1), (2, .int v2)]) mi_M_isBefore (jAvR (jAvI (jAvI jAvN))) (Nat.le_of_ble_eq_true rfl) ?_ ⟨rfl, rfl⟩
  unfold f_M_isBefore at h
  refine J.aload_n 0 d_M_isBefore_0 rfl rfl ?_
  refine J.getF (n := 128) hG d_M_isBefore_1 fl_M_69 ck_109_41 rfl ?_
  refine J.iload_n 2 d_M_isBefore_4 rfl rfl ?_
  obtain ⟨x1, ex1, g, h⟩ := jld_some h
  refine J.il hG d_M_isBefore_5 g ex1 ?_
  refine J.iload_n 1 d_M_isBefore_6 rfl rfl ?_
  refine J.ishr d_M_isBefore_7 ?_
  refine J.iconst (v := (1 : Int32)) d_M_isBefore_8 ki_1 ?_
  refine J.iand d_M_isBefore_9 ?_
  refine J.nop (pc' := 10) rfl ?_
  refine J.iconst (v := (1 : Int32)) d_M_isBefore_10 ki_1 ?_
  refine J.icmp_ne 18 d_M_isBefore_11 rfl (fun c => ?_) (fun c => ?_)
  · rw [if_neg c] at h
    refine J.iconst (v := (0 : Int32)) d_M_isBefore_18 ki_0 ?_
    cases h
    exact J.iret d_M_isBefore_19 rfl rfl rfl
  · rw [if_pos c] at h
    refine J.iconst (v := (1 : Int32)) d_M_isBefore_14 ki_1 ?_
    refine J.goto 19 d_M_isBefore_15 rfl ?_
    cases h
    exact J.iret d_M_isBefore_19 rfl rfl rfl

def lp_M_sumOf_19 (v1 : Int32) (v2 : Int32) (v3 : Int32) (k65 : jMem → Option (Int32 × jMem)) : Nat → Int32 → jMem → Option (Int32 × jMem)
  | 0, _, _ => none
  | n + 1, v4, m =>
    if v3 ≤ v4 then
      k65 m
    else
      jbd (f_M_isBefore v4 v3 m) fun x2 m3 =>
      if x2 = 0 then
        lp_M_sumOf_19 v1 v2 v3 k65 n (v4 + (1 : Int32)) m3
      else
        jld 1 m3 140 v3 fun x4 =>
        jld 1 m3 140 v4 fun x5 =>
        jst 1 m3 140 v3 (jmax x4 (x5 + (1 : Int32))) fun m6 =>
        lp_M_sumOf_19 v1 v2 v3 k65 n (v4 + (1 : Int32)) m6
def lp_M_sumOf_4 (v1 : Int32) (k91 : Int32 → jMem → Option (Int32 × jMem)) : Nat → Int32 → Int32 → jMem → Option (Int32 × jMem)
  | 0, _, _, _ => none
  | n + 1, v2, v3, m =>
    if v1 ≤ v3 then
      k91 v2 m
    else
      jst 1 m 140 v3 (1 : Int32) fun m1 =>
      lp_M_sumOf_19 v1 v2 v3 (fun m7 =>
        jbd (f_M_isBefore v3 v1 m7) fun x8 m9 =>
        if x8 = 0 then
          lp_M_sumOf_4 v1 k91 n v2 (v3 + (1 : Int32)) m9
        else
          jld 1 m9 140 v3 fun x10 =>
          lp_M_sumOf_4 v1 k91 n (jmax v2 x10) (v3 + (1 : Int32)) m9) 5000 (0 : Int32) m1
def f_M_sumOf (v1 : Int32) (m : jMem) : Option (Int32 × jMem) :=
  lp_M_sumOf_4 v1 (fun w12 m11 =>
    some ((w12 + (1 : Int32)), m11)) 5000 (0 : Int32) (0 : Int32) m
theorem jlp_M_sumOf_19 {G : jG} (hG : jFul G) (v1 : Int32) (v2 : Int32) (v3 : Int32) (k65 : jMem → Option (Int32 × jMem))
    (hk65 : ∀ (m : jMem) (r : (Int32 × jMem)), k65 m = some r → J G Y_M_sumOf 65 [(0, jr G 109), (1, .int v1), (2, .int v2), (3, .int v3)] [] m (jri r)) : ∀ (n : Nat) (v4 : Int32) (m : jMem) (r : (Int32 × jMem)), lp_M_sumOf_19 v1 v2 v3 k65 n v4 m = some r → J G Y_M_sumOf 19 [(0, jr G 109), (1, .int v1), (2, .int v2), (3, .int v3), (4, .int v4)] [] m (jri r) := by
  intro n
  induction n with
  | zero => intro v4 m r h; unfold lp_M_sumOf_19 at h; cases h
  | succ n ih =>
    intro v4 m r h
    unfold lp_M_sumOf_19 at h
    refine J.iload 4 d_M_sumOf_19 rfl ?_
    refine J.iload_n 3 d_M_sumOf_21 rfl rfl ?_
    refine J.icmp_ge 65 d_M_sumOf_22 rfl (fun c => ?_) (fun c => ?_)
    · rw [if_pos c] at h
      exact J.sub (ls' := [(0, jr G 109), (1, .int v1), (2, .int v2), (3, .int v3)]) [0, 1, 2, 3] rfl (hk65  m _ h)
    · rw [if_neg c] at h
      refine J.aload_n 0 d_M_sumOf_25 rfl rfl ?_
      refine J.iload 4 d_M_sumOf_26 rfl ?_
      refine J.iload_n 3 d_M_sumOf_28 rfl rfl ?_
      obtain ⟨x2, m3, zm3, h⟩ := jbd_some h
      refine J.cVi Y_M_isBefore (As := [.int v4, .int v3]) (rest := []) hG d_M_sumOf_29 mi_M_isBefore mv_M_isBefore lk_M_350 ⟨rfl, rfl, Nat.le_of_ble_eq_true rfl⟩ cq_109 cc_10 (c_M_isBefore hG zm3) rfl (Nat.le_trans jcN (Nat.le_of_ble_eq_true rfl)) ?_
      refine J.if_eq 59 d_M_sumOf_32 rfl (fun c => ?_) (fun c => ?_)
      · rw [if_pos c] at h
        refine J.iinc 4 (v := (1 : Int32)) (lv := [(4, .int (v4 + (1 : Int32))), (0, jr G 109), (1, .int v1), (2, .int v2), (3, .int v3)]) d_M_sumOf_59 rfl ki_1 (by decide) rfl ?_
        refine J.goto 19 d_M_sumOf_62 rfl ?_
        exact J.sub (ls' := [(0, jr G 109), (1, .int v1), (2, .int v2), (3, .int v3), (4, .int (v4 + (1 : Int32)))]) [1, 2, 3, 4, 0] rfl (ih (v4 + (1 : Int32)) m3 _ h)
      · rw [if_neg c] at h
        refine J.nop (pc' := 35) rfl ?_
        refine J.aload_n 0 d_M_sumOf_35 rfl rfl ?_
        refine J.getF (n := 140) hG d_M_sumOf_36 fl_M_105 ck_109_59 rfl ?_
        refine J.iload_n 3 d_M_sumOf_39 rfl rfl ?_
        refine J.aload_n 0 d_M_sumOf_40 rfl rfl ?_
        refine J.getF (n := 140) hG d_M_sumOf_41 fl_M_105 ck_109_59 rfl ?_
        refine J.iload_n 3 d_M_sumOf_44 rfl rfl ?_
        obtain ⟨x4, ex4, g, h⟩ := jld_some h
        refine J.il hG d_M_sumOf_45 g ex4 ?_
        refine J.aload_n 0 d_M_sumOf_46 rfl rfl ?_
        refine J.nop (pc' := 47) rfl ?_
        refine J.getF (n := 140) hG d_M_sumOf_47 fl_M_105 ck_109_59 rfl ?_
        refine J.iload 4 d_M_sumOf_50 rfl ?_
        obtain ⟨x5, ex5, g, h⟩ := jld_some h
        refine J.il hG d_M_sumOf_52 g ex5 ?_
        refine J.iconst (v := (1 : Int32)) d_M_sumOf_53 ki_1 ?_
        refine J.iadd d_M_sumOf_54 ?_
        refine J.mx d_M_sumOf_55 (jt_7 227 rfl rfl) (jt_3 69 rfl rfl) (jt_1 14 rfl rfl) (jt_3 70 rfl rfl) (Nat.le_trans (jcI (jcR jcN)) (Nat.le_of_ble_eq_true rfl)) ?_
        obtain ⟨m6, hm6, g, h⟩ := jst_some h
        refine J.is hG d_M_sumOf_58 g hm6 ?_
        refine J.iinc 4 (v := (1 : Int32)) (lv := [(4, .int (v4 + (1 : Int32))), (0, jr G 109), (1, .int v1), (2, .int v2), (3, .int v3)]) d_M_sumOf_59 rfl ki_1 (by decide) rfl ?_
        refine J.nop (pc' := 62) rfl ?_
        refine J.goto 19 d_M_sumOf_62 rfl ?_
        exact J.sub (ls' := [(0, jr G 109), (1, .int v1), (2, .int v2), (3, .int v3), (4, .int (v4 + (1 : Int32)))]) [1, 2, 3, 4, 0] rfl (ih (v4 + (1 : Int32)) m6 _ h)
theorem jlp_M_sumOf_4 {G : jG} (hG : jFul G) (v1 : Int32) (k91 : Int32 → jMem → Option (Int32 × jMem))
    (hk91 : ∀ (v2 : Int32) (m : jMem) (r : (Int32 × jMem)), k91 v2 m = some r → J G Y_M_sumOf 91 [(2, .int v2)] [] m (jri r)) : ∀ (n : Nat) (v2 : Int32) (v3 : Int32) (m : jMem) (r : (Int32 × jMem)), lp_M_sumOf_4 v1 k91 n v2 v3 m = some r → J G Y_M_sumOf 4 [(0, jr G 109), (1, .int v1), (2, .int v2), (3, .int v3)] [] m (jri r) := by
  intro n
  induction n with
  | zero => intro v2 v3 m r h; unfold lp_M_sumOf_4 at h; cases h
  | succ n ih =>
    intro v2 v3 m r h
    unfold lp_M_sumOf_4 at h
    refine J.iload_n 3 d_M_sumOf_4 rfl rfl ?_
    refine J.iload_n 1 d_M_sumOf_5 rfl rfl ?_
    refine J.icmp_ge 91 d_M_sumOf_6 rfl (fun c => ?_) (fun c => ?_)
    · rw [if_pos c] at h
      exact J.sub (ls' := [(2, .int v2)]) [2] rfl (hk91 v2 m _ h)
    · rw [if_neg c] at h
      refine J.aload_n 0 d_M_sumOf_9 rfl rfl ?_
      refine J.getF (n := 140) hG d_M_sumOf_10 fl_M_105 ck_109_59 rfl ?_
      refine J.iload_n 3 d_M_sumOf_13 rfl rfl ?_
      refine J.iconst (v := (1 : Int32)) d_M_sumOf_14 ki_1 ?_
      obtain ⟨m1, hm1, g, h⟩ := jst_some h
      refine J.is hG d_M_sumOf_15 g hm1 ?_
      refine J.nop (pc' := 16) rfl ?_
      refine J.iconst (v := (0 : Int32)) d_M_sumOf_16 ki_0 ?_
      refine J.istore (lv := [(4, .int (0 : Int32)), (0, jr G 109), (1, .int v1), (2, .int v2), (3, .int v3)]) d_M_sumOf_17 (by decide) rfl ?_
      refine J.sub (ls' := [(0, jr G 109), (1, .int v1), (2, .int v2), (3, .int v3), (4, .int (0 : Int32))]) [1, 2, 3, 4, 0] rfl ?_
      refine jlp_M_sumOf_19 hG v1 v2 v3 _ ?_ _ (0 : Int32) m1 _ h
      intro m7 r h
      refine J.aload_n 0 d_M_sumOf_65 rfl rfl ?_
      refine J.iload_n 3 d_M_sumOf_66 rfl rfl ?_
      refine J.iload_n 1 d_M_sumOf_67 rfl rfl ?_
      obtain ⟨x8, m9, zm9, h⟩ := jbd_some h
      refine J.cVi Y_M_isBefore (As := [.int v3, .int v1]) (rest := []) hG d_M_sumOf_68 mi_M_isBefore mv_M_isBefore lk_M_350 ⟨rfl, rfl, Nat.le_of_ble_eq_true rfl⟩ cq_109 cc_10 (c_M_isBefore hG zm9) rfl (Nat.le_trans jcN (Nat.le_of_ble_eq_true rfl)) ?_
      refine J.if_eq 85 d_M_sumOf_71 rfl (fun c => ?_) (fun c => ?_)
      · rw [if_pos c] at h
        refine J.iinc 3 (v := (1 : Int32)) (lv := [(3, .int (v3 + (1 : Int32))), (0, jr G 109), (1, .int v1), (2, .int v2)]) d_M_sumOf_85 rfl ki_1 (by decide) rfl ?_
        refine J.goto 4 d_M_sumOf_88 rfl ?_
        exact J.sub (ls' := [(0, jr G 109), (1, .int v1), (2, .int v2), (3, .int (v3 + (1 : Int32)))]) [1, 2, 3, 0] rfl (ih v2 (v3 + (1 : Int32)) m9 _ h)
      · rw [if_neg c] at h
        refine J.iload_n 2 d_M_sumOf_74 rfl rfl ?_
        refine J.aload_n 0 d_M_sumOf_75 rfl rfl ?_
        refine J.getF (n := 140) hG d_M_sumOf_76 fl_M_105 ck_109_59 rfl ?_
        refine J.nop (pc' := 79) rfl ?_
        refine J.iload_n 3 d_M_sumOf_79 rfl rfl ?_
        obtain ⟨x10, ex10, g, h⟩ := jld_some h
        refine J.il hG d_M_sumOf_80 g ex10 ?_
        refine J.mx d_M_sumOf_81 (jt_7 227 rfl rfl) (jt_3 69 rfl rfl) (jt_1 14 rfl rfl) (jt_3 70 rfl rfl) (Nat.le_trans jcN (Nat.le_of_ble_eq_true rfl)) ?_
        refine J.istore_n (lv := [(2, .int (jmax v2 x10)), (0, jr G 109), (1, .int v1), (3, .int v3)]) d_M_sumOf_84 rfl (by decide) rfl ?_
        refine J.iinc 3 (v := (1 : Int32)) (lv := [(3, .int (v3 + (1 : Int32))), (2, .int (jmax v2 x10)), (0, jr G 109), (1, .int v1)]) d_M_sumOf_85 rfl ki_1 (by decide) rfl ?_
        refine J.goto 4 d_M_sumOf_88 rfl ?_
        exact J.sub (ls' := [(0, jr G 109), (1, .int v1), (2, .int (jmax v2 x10)), (3, .int (v3 + (1 : Int32)))]) [2, 3, 1, 0] rfl (ih (jmax v2 x10) (v3 + (1 : Int32)) m9 _ h)
theorem c_M_sumOf {G : jG} (hG : jFul G) {v1 : Int32} {m : jMem} {r : (Int32 × jMem)} (h : f_M_sumOf v1 m = some r) : jCt G Y_M_sumOf [jr G 109, .int v1] m (jri r) := by
  refine jCt.ov (ls := [(0, jr G 109), (1, .int v1)]) mi_M_sumOf (jAvR (jAvI jAvN)) (Nat.le_of_ble_eq_true rfl) ?_ ⟨rfl, rfl⟩
  unfold f_M_sumOf at h
  refine J.iconst (v := (0 : Int32)) d_M_sumOf_0 ki_0 ?_
  refine J.istore_n (lv := [(2, .int (0 : Int32)), (0, jr G 109), (1, .int v1)]) d_M_sumOf_1 rfl (by decide) rfl ?_
  refine J.iconst (v := (0 : Int32)) d_M_sumOf_2 ki_0 ?_
  refine J.istore_n (lv := [(3, .int (0 : Int32)), (2, .int (0 : Int32)), (0, jr G 109), (1, .int v1)]) d_M_sumOf_3 rfl (by decide) rfl ?_
  refine J.sub (ls' := [(0, jr G 109), (1, .int v1), (2, .int (0 : Int32)), (3, .int (0 : Int32))]) [2, 3, 1, 0] rfl ?_
  refine jlp_M_sumOf_4 hG v1 _ ?_ _ (0 : Int32) (0 : Int32) m _ h
  intro w12 m11 r h
  refine J.iload_n 0 d_M_sumOf_91 rfl rfl ?_
  refine J.iconst (v := (1 : Int32)) d_M_sumOf_92 ki_1 ?_
  refine J.iadd d_M_sumOf_93 ?_
  cases h
  exact J.iret d_M_sumOf_94 rfl (vp_nar_int _) rfl

def lp_M_answers_121 (v1 : Int32) (v2 : Int32) (v3 : Int32) (k165 : jMem → Option (Unit × jMem)) : Nat → Int32 → jMem → Option (Unit × jMem)
  | 0, _, _ => none
  | n + 1, v4, m =>
    if (m 109 33) ≤ v4 then
      k165 m
    else
      jld 1 m 118 (6 : Int32) fun x22 =>
      jld 1 m 121 v4 fun x23 =>
      if x23 = v2 then
        jbd (f_M_is (1 : Int32) m) fun x27 m28 =>
        jst 1 m28 118 (6 : Int32) (x22 + x27) fun m29 =>
        lp_M_answers_121 v1 v2 v3 k165 n (v4 + (1 : Int32)) m29
      else
        jbd (f_M_is (0 : Int32) m) fun x24 m25 =>
        jst 1 m25 118 (6 : Int32) (x22 + x24) fun m26 =>
        lp_M_answers_121 v1 v2 v3 k165 n (v4 + (1 : Int32)) m26
def f_M_answers (v1 : Int32) (v2 : Int32) (v3 : Int32) (m : jMem) : Option (Unit × jMem) :=
  jld 1 m 121 v3 fun x1 =>
  jst 1 m 118 (0 : Int32) x1 fun m2 =>
  jld 1 m2 123 v3 fun x3 =>
  jst 1 m2 118 (1 : Int32) x3 fun m4 =>
  jld 1 m4 122 v3 fun x5 =>
  jst 1 m4 118 (2 : Int32) ((m4 109 31) - x5) fun m6 =>
  jld 1 m6 135 v2 fun x7 =>
  jbd (f_M_bits x7 m6) fun x8 m9 =>
  jst 1 m9 118 (3 : Int32) x8 fun m10 =>
  jbd (f_M_sumOf v3 m10) fun x11 m12 =>
  jst 1 m12 118 (4 : Int32) x11 fun m13 =>
  jld 1 m13 125 v3 fun x14 =>
  if x14 = (-1 : Int32) then
    jbd (f_M_is (0 : Int32) m13) fun x15 m16 =>
    jld 1 m16 126 v3 fun x17 =>
    if x17 = (-1 : Int32) then
      jbd (f_M_is (0 : Int32) m16) fun x18 m19 =>
      jst 1 m19 118 (5 : Int32) (x15 + x18) fun m20 =>
      jst 1 m20 118 (6 : Int32) (0 : Int32) fun m21 =>
      lp_M_answers_121 v1 v2 v3 (fun m30 =>
        jld 2 m30 113 v1 fun x31 =>
        if x31 = 0 then
          jld 1 m30 121 v3 fun x32 =>
          jbd (f_M_holdsE v1 m30) fun x33 m34 =>
          if x33 = 0 then
            some ((), m34)
          else
            jbd (f_M_hasRoom ((1 : Int32) <<< (x32 &&& 31)) m34) fun x35 m36 =>
            if x35 = 0 then
              some ((), m36)
            else
              jbd (f_M_written v2 ((1 : Int32) <<< (x32 &&& 31)) (0 : Int32) v3 (-1 : Int32) m36) fun u37 m38 =>
              some ((), m38)
        else
          jbd (f_M_holdsE v1 m30) fun x39 m40 =>
          if x39 = 0 then
            some ((), m40)
          else
            jbd (f_M_hasRoom ((63 : Int32) &&& (((1 : Int32) <<< (v2 &&& 31)) ^^^ (-1 : Int32))) m40) fun x41 m42 =>
            if x41 = 0 then
              some ((), m42)
            else
              jbd (f_M_written v2 ((63 : Int32) &&& (((1 : Int32) <<< (v2 &&& 31)) ^^^ (-1 : Int32))) (0 : Int32) v3 (-1 : Int32) m42) fun u43 m44 =>
              some ((), m44)) 5000 (0 : Int32) m21
    else
      jbd (f_M_is (1 : Int32) m16) fun x45 m46 =>
      jst 1 m46 118 (5 : Int32) (x15 + x45) fun m47 =>
      jst 1 m47 118 (6 : Int32) (0 : Int32) fun m48 =>
      lp_M_answers_121 v1 v2 v3 (fun m49 =>
        jld 2 m49 113 v1 fun x50 =>
        if x50 = 0 then
          jld 1 m49 121 v3 fun x51 =>
          jbd (f_M_holdsE v1 m49) fun x52 m53 =>
          if x52 = 0 then
            some ((), m53)
          else
            jbd (f_M_hasRoom ((1 : Int32) <<< (x51 &&& 31)) m53) fun x54 m55 =>
            if x54 = 0 then
              some ((), m55)
            else
              jbd (f_M_written v2 ((1 : Int32) <<< (x51 &&& 31)) (0 : Int32) v3 (-1 : Int32) m55) fun u56 m57 =>
              some ((), m57)
        else
          jbd (f_M_holdsE v1 m49) fun x58 m59 =>
          if x58 = 0 then
            some ((), m59)
          else
            jbd (f_M_hasRoom ((63 : Int32) &&& (((1 : Int32) <<< (v2 &&& 31)) ^^^ (-1 : Int32))) m59) fun x60 m61 =>
            if x60 = 0 then
              some ((), m61)
            else
              jbd (f_M_written v2 ((63 : Int32) &&& (((1 : Int32) <<< (v2 &&& 31)) ^^^ (-1 : Int32))) (0 : Int32) v3 (-1 : Int32) m61) fun u62 m63 =>
              some ((), m63)) 5000 (0 : Int32) m48
  else
    jbd (f_M_is (1 : Int32) m13) fun x64 m65 =>
    jld 1 m65 126 v3 fun x66 =>
    if x66 = (-1 : Int32) then
      jbd (f_M_is (0 : Int32) m65) fun x67 m68 =>
      jst 1 m68 118 (5 : Int32) (x64 + x67) fun m69 =>
      jst 1 m69 118 (6 : Int32) (0 : Int32) fun m70 =>
      lp_M_answers_121 v1 v2 v3 (fun m71 =>
        jld 2 m71 113 v1 fun x72 =>
        if x72 = 0 then
          jld 1 m71 121 v3 fun x73 =>
          jbd (f_M_holdsE v1 m71) fun x74 m75 =>
          if x74 = 0 then
            some ((), m75)
          else
            jbd (f_M_hasRoom ((1 : Int32) <<< (x73 &&& 31)) m75) fun x76 m77 =>
            if x76 = 0 then
              some ((), m77)
            else
              jbd (f_M_written v2 ((1 : Int32) <<< (x73 &&& 31)) (0 : Int32) v3 (-1 : Int32) m77) fun u78 m79 =>
              some ((), m79)
        else
          jbd (f_M_holdsE v1 m71) fun x80 m81 =>
          if x80 = 0 then
            some ((), m81)
          else
            jbd (f_M_hasRoom ((63 : Int32) &&& (((1 : Int32) <<< (v2 &&& 31)) ^^^ (-1 : Int32))) m81) fun x82 m83 =>
            if x82 = 0 then
              some ((), m83)
            else
              jbd (f_M_written v2 ((63 : Int32) &&& (((1 : Int32) <<< (v2 &&& 31)) ^^^ (-1 : Int32))) (0 : Int32) v3 (-1 : Int32) m83) fun u84 m85 =>
              some ((), m85)) 5000 (0 : Int32) m70
    else
      jbd (f_M_is (1 : Int32) m65) fun x86 m87 =>
      jst 1 m87 118 (5 : Int32) (x64 + x86) fun m88 =>
      jst 1 m88 118 (6 : Int32) (0 : Int32) fun m89 =>
      lp_M_answers_121 v1 v2 v3 (fun m90 =>
        jld 2 m90 113 v1 fun x91 =>
        if x91 = 0 then
          jld 1 m90 121 v3 fun x92 =>
          jbd (f_M_holdsE v1 m90) fun x93 m94 =>
          if x93 = 0 then
            some ((), m94)
          else
            jbd (f_M_hasRoom ((1 : Int32) <<< (x92 &&& 31)) m94) fun x95 m96 =>
            if x95 = 0 then
              some ((), m96)
            else
              jbd (f_M_written v2 ((1 : Int32) <<< (x92 &&& 31)) (0 : Int32) v3 (-1 : Int32) m96) fun u97 m98 =>
              some ((), m98)
        else
          jbd (f_M_holdsE v1 m90) fun x99 m100 =>
          if x99 = 0 then
            some ((), m100)
          else
            jbd (f_M_hasRoom ((63 : Int32) &&& (((1 : Int32) <<< (v2 &&& 31)) ^^^ (-1 : Int32))) m100) fun x101 m102 =>
            if x101 = 0 then
              some ((), m102)
            else
              jbd (f_M_written v2 ((63 : Int32) &&& (((1 : Int32) <<< (v2 &&& 31)) ^^^ (-1 : Int32))) (0 : Int32) v3 (-1 : Int32) m102) fun u103 m104 =>
              some ((), m104)) 5000 (0 : Int32) m89
theorem jlp_M_answers_121 {G : jG} (hG : jFul G) (v1 : Int32) (v2 : Int32) (v3 : Int32) (k165 : jMem → Option (Unit × jMem))
    (hk165 : ∀ (m : jMem) (r : (Unit × jMem)), k165 m = some r → J G Y_M_answers 165 [(0, jr G 109), (1, .int v1), (2, .int v2), (3, .int v3)] [] m (jrv r)) : ∀ (n : Nat) (v4 : Int32) (m : jMem) (r : (Unit × jMem)), lp_M_answers_121 v1 v2 v3 k165 n v4 m = some r → J G Y_M_answers 121 [(0, jr G 109), (1, .int v1), (2, .int v2), (3, .int v3), (4, .int v4)] [] m (jrv r) := by
  intro n
  induction n with
  | zero => intro v4 m r h; unfold lp_M_answers_121 at h; cases h
  | succ n ih =>
    intro v4 m r h
    unfold lp_M_answers_121 at h
    refine J.iload 4 d_M_answers_121 rfl ?_
    refine J.aload_n 0 d_M_answers_123 rfl rfl ?_
    refine J.getI hG d_M_answers_124 fl_M_277 ck_109_33 ?_
    refine J.icmp_ge 165 d_M_answers_127 rfl (fun c => ?_) (fun c => ?_)
    · rw [if_pos c] at h
      exact J.sub (ls' := [(0, jr G 109), (1, .int v1), (2, .int v2), (3, .int v3)]) [0, 1, 2, 3] rfl (hk165  m _ h)
    · rw [if_neg c] at h
      refine J.aload_n 0 d_M_answers_130 rfl rfl ?_
      refine J.getF (n := 118) hG d_M_answers_131 fl_M_39 ck_109_28 rfl ?_
      refine J.bipush (v := (6 : Int32)) d_M_answers_134 kb_6 ?_
      refine J.dup2 d_M_answers_136 rfl (jr_cat _ _) ?_
      refine J.nop (pc' := 137) rfl ?_
      obtain ⟨x22, ex22, g, h⟩ := jld_some h
      refine J.il hG d_M_answers_137 g ex22 ?_
      refine J.aload_n 0 d_M_answers_138 rfl rfl ?_
      refine J.getF (n := 121) hG d_M_answers_139 fl_M_48 ck_109_34 rfl ?_
      refine J.iload 4 d_M_answers_142 rfl ?_
      obtain ⟨x23, ex23, g, h⟩ := jld_some h
      refine J.il hG d_M_answers_144 g ex23 ?_
      refine J.iload_n 2 d_M_answers_145 rfl rfl ?_
      refine J.icmp_ne 153 d_M_answers_146 rfl (fun c => ?_) (fun c => ?_)
      · rw [if_neg c] at h
        refine J.iconst (v := (0 : Int32)) d_M_answers_153 ki_0 ?_
        obtain ⟨x24, m25, zm25, h⟩ := jbd_some h
        refine J.cSi Y_M_is (As := [.int (0 : Int32)]) (rest := [.int x22, .int (6 : Int32), jr G 118]) d_M_answers_154 mi_M_is ms_M_is lk_M_270 ⟨rfl, rfl, Nat.le_of_ble_eq_true rfl⟩ (c_M_is hG zm25) rfl (Nat.le_trans (jcI (jcI (jcR jcN))) (Nat.le_of_ble_eq_true rfl)) ?_
        refine J.iadd d_M_answers_157 ?_
        obtain ⟨m26, hm26, g, h⟩ := jst_some h
        refine J.is hG d_M_answers_158 g hm26 ?_
        refine J.iinc 4 (v := (1 : Int32)) (lv := [(4, .int (v4 + (1 : Int32))), (0, jr G 109), (1, .int v1), (2, .int v2), (3, .int v3)]) d_M_answers_159 rfl ki_1 (by decide) rfl ?_
        refine J.goto 121 d_M_answers_162 rfl ?_
        exact J.sub (ls' := [(0, jr G 109), (1, .int v1), (2, .int v2), (3, .int v3), (4, .int (v4 + (1 : Int32)))]) [1, 2, 3, 4, 0] rfl (ih (v4 + (1 : Int32)) m26 _ h)
      · rw [if_pos c] at h
        refine J.iconst (v := (1 : Int32)) d_M_answers_149 ki_1 ?_
        refine J.nop (pc' := 150) rfl ?_
        refine J.goto 154 d_M_answers_150 rfl ?_
        obtain ⟨x27, m28, zm28, h⟩ := jbd_some h
        refine J.cSi Y_M_is (As := [.int (1 : Int32)]) (rest := [.int x22, .int (6 : Int32), jr G 118]) d_M_answers_154 mi_M_is ms_M_is lk_M_270 ⟨rfl, rfl, Nat.le_of_ble_eq_true rfl⟩ (c_M_is hG zm28) rfl (Nat.le_trans (jcI (jcI (jcR jcN))) (Nat.le_of_ble_eq_true rfl)) ?_
        refine J.iadd d_M_answers_157 ?_
        obtain ⟨m29, hm29, g, h⟩ := jst_some h
        refine J.is hG d_M_answers_158 g hm29 ?_
        refine J.iinc 4 (v := (1 : Int32)) (lv := [(4, .int (v4 + (1 : Int32))), (0, jr G 109), (1, .int v1), (2, .int v2), (3, .int v3)]) d_M_answers_159 rfl ki_1 (by decide) rfl ?_
        refine J.goto 121 d_M_answers_162 rfl ?_
        exact J.sub (ls' := [(0, jr G 109), (1, .int v1), (2, .int v2), (3, .int v3), (4, .int (v4 + (1 : Int32)))]) [1, 2, 3, 4, 0] rfl (ih (v4 + (1 : Int32)) m29 _ h)
theorem c_M_answers {G : jG} (hG : jFul G) {v1 : Int32} {v2 : Int32} {v3 : Int32} {m : jMem} {r : (Unit × jMem)} (h : f_M_answers v1 v2 v3 m = some r) : jCt G Y_M_answers [jr G 109, .int v1, .int v2, .int v3] m (jrv r) := by
  refine jCt.ov (ls := [(0, jr G 109), (1, .int v1), (2, .int v2), (3, .int v3)]) mi_M_answers (jAvR (jAvI (jAvI (jAvI jAvN)))) (Nat.le_of_ble_eq_true rfl) ?_ ⟨rfl, rfl⟩
  unfold f_M_answers at h
  refine J.aload_n 0 d_M_answers_0 rfl rfl ?_
  refine J.getF (n := 118) hG d_M_answers_1 fl_M_39 ck_109_28 rfl ?_
  refine J.iconst (v := (0 : Int32)) d_M_answers_4 ki_0 ?_
  refine J.aload_n 0 d_M_answers_5 rfl rfl ?_
  refine J.getF (n := 121) hG d_M_answers_6 fl_M_48 ck_109_34 rfl ?_
  refine J.iload_n 3 d_M_answers_9 rfl rfl ?_
  obtain ⟨x1, ex1, g, h⟩ := jld_some h
  refine J.il hG d_M_answers_10 g ex1 ?_
  obtain ⟨m2, hm2, g, h⟩ := jst_some h
  refine J.is hG d_M_answers_11 g hm2 ?_
  refine J.nop (pc' := 12) rfl ?_
  refine J.aload_n 0 d_M_answers_12 rfl rfl ?_
  refine J.getF (n := 118) hG d_M_answers_13 fl_M_39 ck_109_28 rfl ?_
  refine J.iconst (v := (1 : Int32)) d_M_answers_16 ki_1 ?_
  refine J.aload_n 0 d_M_answers_17 rfl rfl ?_
  refine J.getF (n := 123) hG d_M_answers_18 fl_M_54 ck_109_36 rfl ?_
  refine J.iload_n 3 d_M_answers_21 rfl rfl ?_
  obtain ⟨x3, ex3, g, h⟩ := jld_some h
  refine J.il hG d_M_answers_22 g ex3 ?_
  obtain ⟨m4, hm4, g, h⟩ := jst_some h
  refine J.is hG d_M_answers_23 g hm4 ?_
  refine J.nop (pc' := 24) rfl ?_
  refine J.aload_n 0 d_M_answers_24 rfl rfl ?_
  refine J.getF (n := 118) hG d_M_answers_25 fl_M_39 ck_109_28 rfl ?_
  refine J.iconst (v := (2 : Int32)) d_M_answers_28 ki_2 ?_
  refine J.aload_n 0 d_M_answers_29 rfl rfl ?_
  refine J.getI hG d_M_answers_30 fl_M_295 ck_109_31 ?_
  refine J.aload_n 0 d_M_answers_33 rfl rfl ?_
  refine J.getF (n := 122) hG d_M_answers_34 fl_M_51 ck_109_35 rfl ?_
  refine J.iload_n 3 d_M_answers_37 rfl rfl ?_
  refine J.nop (pc' := 38) rfl ?_
  obtain ⟨x5, ex5, g, h⟩ := jld_some h
  refine J.il hG d_M_answers_38 g ex5 ?_
  refine J.isub d_M_answers_39 ?_
  obtain ⟨m6, hm6, g, h⟩ := jst_some h
  refine J.is hG d_M_answers_40 g hm6 ?_
  refine J.aload_n 0 d_M_answers_41 rfl rfl ?_
  refine J.getF (n := 118) hG d_M_answers_42 fl_M_39 ck_109_28 rfl ?_
  refine J.iconst (v := (3 : Int32)) d_M_answers_45 ki_3 ?_
  refine J.aload_n 0 d_M_answers_46 rfl rfl ?_
  refine J.getF (n := 135) hG d_M_answers_47 fl_M_90 ck_109_53 rfl ?_
  refine J.nop (pc' := 50) rfl ?_
  refine J.iload_n 2 d_M_answers_50 rfl rfl ?_
  obtain ⟨x7, ex7, g, h⟩ := jld_some h
  refine J.il hG d_M_answers_51 g ex7 ?_
  obtain ⟨x8, m9, zm9, h⟩ := jbd_some h
  refine J.cSi Y_M_bits (As := [.int x7]) (rest := [.int (3 : Int32), jr G 118]) d_M_answers_52 mi_M_bits ms_M_bits lk_M_306 ⟨rfl, rfl, Nat.le_of_ble_eq_true rfl⟩ (c_M_bits hG zm9) rfl (Nat.le_trans (jcI (jcR jcN)) (Nat.le_of_ble_eq_true rfl)) ?_
  obtain ⟨m10, hm10, g, h⟩ := jst_some h
  refine J.is hG d_M_answers_55 g hm10 ?_
  refine J.aload_n 0 d_M_answers_56 rfl rfl ?_
  refine J.getF (n := 118) hG d_M_answers_57 fl_M_39 ck_109_28 rfl ?_
  refine J.iconst (v := (4 : Int32)) d_M_answers_60 ki_4 ?_
  refine J.aload_n 0 d_M_answers_61 rfl rfl ?_
  refine J.nop (pc' := 62) rfl ?_
  refine J.iload_n 3 d_M_answers_62 rfl rfl ?_
  obtain ⟨x11, m12, zm12, h⟩ := jbd_some h
  refine J.cVi Y_M_sumOf (As := [.int v3]) (rest := [.int (4 : Int32), jr G 118]) hG d_M_answers_63 mi_M_sumOf mv_M_sumOf lk_M_335 ⟨rfl, rfl, Nat.le_of_ble_eq_true rfl⟩ cq_109 cc_10 (c_M_sumOf hG zm12) rfl (Nat.le_trans (jcI (jcR jcN)) (Nat.le_of_ble_eq_true rfl)) ?_
  obtain ⟨m13, hm13, g, h⟩ := jst_some h
  refine J.is hG d_M_answers_66 g hm13 ?_
  refine J.aload_n 0 d_M_answers_67 rfl rfl ?_
  refine J.getF (n := 118) hG d_M_answers_68 fl_M_39 ck_109_28 rfl ?_
  refine J.iconst (v := (5 : Int32)) d_M_answers_71 ki_5 ?_
  refine J.aload_n 0 d_M_answers_72 rfl rfl ?_
  refine J.getF (n := 125) hG d_M_answers_73 fl_M_60 ck_109_38 rfl ?_
  refine J.nop (pc' := 76) rfl ?_
  refine J.iload_n 3 d_M_answers_76 rfl rfl ?_
  obtain ⟨x14, ex14, g, h⟩ := jld_some h
  refine J.il hG d_M_answers_77 g ex14 ?_
  refine J.iconst (v := (-1 : Int32)) d_M_answers_78 ki_m1 ?_
  refine J.icmp_eq 86 d_M_answers_79 rfl (fun c => ?_) (fun c => ?_)
  · rw [if_pos c] at h
    refine J.iconst (v := (0 : Int32)) d_M_answers_86 ki_0 ?_
    obtain ⟨x15, m16, zm16, h⟩ := jbd_some h
    refine J.cSi Y_M_is (As := [.int (0 : Int32)]) (rest := [.int (5 : Int32), jr G 118]) d_M_answers_87 mi_M_is ms_M_is lk_M_270 ⟨rfl, rfl, Nat.le_of_ble_eq_true rfl⟩ (c_M_is hG zm16) rfl (Nat.le_trans (jcI (jcR jcN)) (Nat.le_of_ble_eq_true rfl)) ?_
    refine J.aload_n 0 d_M_answers_90 rfl rfl ?_
    refine J.getF (n := 126) hG d_M_answers_91 fl_M_63 ck_109_39 rfl ?_
    refine J.iload_n 3 d_M_answers_94 rfl rfl ?_
    obtain ⟨x17, ex17, g, h⟩ := jld_some h
    refine J.il hG d_M_answers_95 g ex17 ?_
    refine J.iconst (v := (-1 : Int32)) d_M_answers_96 ki_m1 ?_
    refine J.icmp_eq 104 d_M_answers_97 rfl (fun c => ?_) (fun c => ?_)
    · rw [if_pos c] at h
      refine J.iconst (v := (0 : Int32)) d_M_answers_104 ki_0 ?_
      obtain ⟨x18, m19, zm19, h⟩ := jbd_some h
      refine J.cSi Y_M_is (As := [.int (0 : Int32)]) (rest := [.int x15, .int (5 : Int32), jr G 118]) d_M_answers_105 mi_M_is ms_M_is lk_M_270 ⟨rfl, rfl, Nat.le_of_ble_eq_true rfl⟩ (c_M_is hG zm19) rfl (Nat.le_trans (jcI (jcI (jcR jcN))) (Nat.le_of_ble_eq_true rfl)) ?_
      refine J.iadd d_M_answers_108 ?_
      obtain ⟨m20, hm20, g, h⟩ := jst_some h
      refine J.is hG d_M_answers_109 g hm20 ?_
      refine J.aload_n 0 d_M_answers_110 rfl rfl ?_
      refine J.getF (n := 118) hG d_M_answers_111 fl_M_39 ck_109_28 rfl ?_
      refine J.bipush (v := (6 : Int32)) d_M_answers_114 kb_6 ?_
      refine J.iconst (v := (0 : Int32)) d_M_answers_116 ki_0 ?_
      refine J.nop (pc' := 117) rfl ?_
      obtain ⟨m21, hm21, g, h⟩ := jst_some h
      refine J.is hG d_M_answers_117 g hm21 ?_
      refine J.iconst (v := (0 : Int32)) d_M_answers_118 ki_0 ?_
      refine J.istore (lv := [(4, .int (0 : Int32)), (0, jr G 109), (1, .int v1), (2, .int v2), (3, .int v3)]) d_M_answers_119 (by decide) rfl ?_
      refine J.sub (ls' := [(0, jr G 109), (1, .int v1), (2, .int v2), (3, .int v3), (4, .int (0 : Int32))]) [1, 2, 3, 4, 0] rfl ?_
      refine jlp_M_answers_121 hG v1 v2 v3 _ ?_ _ (0 : Int32) m21 _ h
      intro m30 r h
      refine J.aload_n 0 d_M_answers_165 rfl rfl ?_
      refine J.getF (n := 113) hG d_M_answers_166 fl_M_19 ck_109_8 rfl ?_
      refine J.iload_n 1 d_M_answers_169 rfl rfl ?_
      obtain ⟨x31, ex31, g, h⟩ := jld_some h
      refine J.zl hG d_M_answers_170 g ex31 ?_
      refine J.if_eq 185 d_M_answers_171 rfl (fun c => ?_) (fun c => ?_)
      · rw [if_pos c] at h
        refine J.iconst (v := (1 : Int32)) d_M_answers_185 ki_1 ?_
        refine J.aload_n 0 d_M_answers_186 rfl rfl ?_
        refine J.getF (n := 121) hG d_M_answers_187 fl_M_48 ck_109_34 rfl ?_
        refine J.iload_n 3 d_M_answers_190 rfl rfl ?_
        obtain ⟨x32, ex32, g, h⟩ := jld_some h
        refine J.il hG d_M_answers_191 g ex32 ?_
        refine J.ishl d_M_answers_192 ?_
        refine J.istore (lv := [(4, .int ((1 : Int32) <<< (x32 &&& 31))), (0, jr G 109), (1, .int v1), (2, .int v2), (3, .int v3)]) d_M_answers_193 (by decide) rfl ?_
        refine J.aload_n 1 d_M_answers_195 rfl rfl ?_
        refine J.nop (pc' := 196) rfl ?_
        refine J.iload_n 2 d_M_answers_196 rfl rfl ?_
        obtain ⟨x33, m34, zm34, h⟩ := jbd_some h
        refine J.cVi Y_M_holdsE (As := [.int v1]) (rest := []) hG d_M_answers_197 mi_M_holdsE mv_M_holdsE lk_M_338 ⟨rfl, rfl, Nat.le_of_ble_eq_true rfl⟩ cq_109 cc_10 (c_M_holdsE hG zm34) rfl (Nat.le_trans jcN (Nat.le_of_ble_eq_true rfl)) ?_
        refine J.if_eq 222 d_M_answers_200 rfl (fun c => ?_) (fun c => ?_)
        · rw [if_pos c] at h
          cases h
          exact J.vret d_M_answers_222 rfl rfl
        · rw [if_neg c] at h
          refine J.aload_n 1 d_M_answers_203 rfl rfl ?_
          refine J.iload 0 d_M_answers_204 rfl ?_
          obtain ⟨x35, m36, zm36, h⟩ := jbd_some h
          refine J.cVi Y_M_hasRoom (As := [.int ((1 : Int32) <<< (x32 &&& 31))]) (rest := []) hG d_M_answers_206 mi_M_hasRoom mv_M_hasRoom lk_M_316 ⟨rfl, rfl, Nat.le_of_ble_eq_true rfl⟩ cq_109 cc_10 (c_M_hasRoom hG zm36) rfl (Nat.le_trans jcN (Nat.le_of_ble_eq_true rfl)) ?_
          refine J.if_eq 222 d_M_answers_209 rfl (fun c => ?_) (fun c => ?_)
          · rw [if_pos c] at h
            cases h
            exact J.vret d_M_answers_222 rfl rfl
          · rw [if_neg c] at h
            refine J.aload_n 1 d_M_answers_212 rfl rfl ?_
            refine J.nop (pc' := 213) rfl ?_
            refine J.iload_n 3 d_M_answers_213 rfl rfl ?_
            refine J.iload 0 d_M_answers_214 rfl ?_
            refine J.iconst (v := (0 : Int32)) d_M_answers_216 ki_0 ?_
            refine J.iload_n 4 d_M_answers_217 rfl rfl ?_
            refine J.iconst (v := (-1 : Int32)) d_M_answers_218 ki_m1 ?_
            obtain ⟨u37, m38, zm38, h⟩ := jbd_some h
            refine J.cVv Y_M_written (As := [.int v2, .int ((1 : Int32) <<< (x32 &&& 31)), .int (0 : Int32), .int v3, .int (-1 : Int32)]) (rest := []) hG d_M_answers_219 mi_M_written mv_M_written lk_M_319 ⟨rfl, rfl, Nat.le_of_ble_eq_true rfl⟩ cq_109 cc_10 (c_M_written hG zm38) rfl (Nat.le_trans jcN (Nat.le_of_ble_eq_true rfl)) ?_
            cases h
            exact J.vret d_M_answers_222 rfl rfl
      · rw [if_neg c] at h
        refine J.bipush (v := (63 : Int32)) d_M_answers_174 kb_63 ?_
        refine J.iconst (v := (1 : Int32)) d_M_answers_176 ki_1 ?_
        refine J.iload_n 2 d_M_answers_177 rfl rfl ?_
        refine J.nop (pc' := 178) rfl ?_
        refine J.ishl d_M_answers_178 ?_
        refine J.iconst (v := (-1 : Int32)) d_M_answers_179 ki_m1 ?_
        refine J.ixor d_M_answers_180 ?_
        refine J.iand d_M_answers_181 ?_
        refine J.goto 193 d_M_answers_182 rfl ?_
        refine J.istore (lv := [(4, .int ((63 : Int32) &&& (((1 : Int32) <<< (v2 &&& 31)) ^^^ (-1 : Int32)))), (0, jr G 109), (1, .int v1), (2, .int v2), (3, .int v3)]) d_M_answers_193 (by decide) rfl ?_
        refine J.aload_n 1 d_M_answers_195 rfl rfl ?_
        refine J.iload_n 2 d_M_answers_196 rfl rfl ?_
        obtain ⟨x39, m40, zm40, h⟩ := jbd_some h
        refine J.cVi Y_M_holdsE (As := [.int v1]) (rest := []) hG d_M_answers_197 mi_M_holdsE mv_M_holdsE lk_M_338 ⟨rfl, rfl, Nat.le_of_ble_eq_true rfl⟩ cq_109 cc_10 (c_M_holdsE hG zm40) rfl (Nat.le_trans jcN (Nat.le_of_ble_eq_true rfl)) ?_
        refine J.if_eq 222 d_M_answers_200 rfl (fun c => ?_) (fun c => ?_)
        · rw [if_pos c] at h
          cases h
          exact J.vret d_M_answers_222 rfl rfl
        · rw [if_neg c] at h
          refine J.aload_n 1 d_M_answers_203 rfl rfl ?_
          refine J.iload 0 d_M_answers_204 rfl ?_
          obtain ⟨x41, m42, zm42, h⟩ := jbd_some h
          refine J.cVi Y_M_hasRoom (As := [.int ((63 : Int32) &&& (((1 : Int32) <<< (v2 &&& 31)) ^^^ (-1 : Int32)))]) (rest := []) hG d_M_answers_206 mi_M_hasRoom mv_M_hasRoom lk_M_316 ⟨rfl, rfl, Nat.le_of_ble_eq_true rfl⟩ cq_109 cc_10 (c_M_hasRoom hG zm42) rfl (Nat.le_trans jcN (Nat.le_of_ble_eq_true rfl)) ?_
          refine J.nop (pc' := 209) rfl ?_
          refine J.if_eq 222 d_M_answers_209 rfl (fun c => ?_) (fun c => ?_)
          · rw [if_pos c] at h
            cases h
            exact J.vret d_M_answers_222 rfl rfl
          · rw [if_neg c] at h
            refine J.aload_n 1 d_M_answers_212 rfl rfl ?_
            refine J.iload_n 3 d_M_answers_213 rfl rfl ?_
            refine J.iload 0 d_M_answers_214 rfl ?_
            refine J.iconst (v := (0 : Int32)) d_M_answers_216 ki_0 ?_
            refine J.iload_n 4 d_M_answers_217 rfl rfl ?_
            refine J.iconst (v := (-1 : Int32)) d_M_answers_218 ki_m1 ?_
            obtain ⟨u43, m44, zm44, h⟩ := jbd_some h
            refine J.cVv Y_M_written (As := [.int v2, .int ((63 : Int32) &&& (((1 : Int32) <<< (v2 &&& 31)) ^^^ (-1 : Int32))), .int (0 : Int32), .int v3, .int (-1 : Int32)]) (rest := []) hG d_M_answers_219 mi_M_written mv_M_written lk_M_319 ⟨rfl, rfl, Nat.le_of_ble_eq_true rfl⟩ cq_109 cc_10 (c_M_written hG zm44) rfl (Nat.le_trans jcN (Nat.le_of_ble_eq_true rfl)) ?_
            refine J.nop (pc' := 222) rfl ?_
            cases h
            exact J.vret d_M_answers_222 rfl rfl
    · rw [if_neg c] at h
      refine J.nop (pc' := 100) rfl ?_
      refine J.iconst (v := (1 : Int32)) d_M_answers_100 ki_1 ?_
      refine J.goto 105 d_M_answers_101 rfl ?_
      obtain ⟨x45, m46, zm46, h⟩ := jbd_some h
      refine J.cSi Y_M_is (As := [.int (1 : Int32)]) (rest := [.int x15, .int (5 : Int32), jr G 118]) d_M_answers_105 mi_M_is ms_M_is lk_M_270 ⟨rfl, rfl, Nat.le_of_ble_eq_true rfl⟩ (c_M_is hG zm46) rfl (Nat.le_trans (jcI (jcI (jcR jcN))) (Nat.le_of_ble_eq_true rfl)) ?_
      refine J.iadd d_M_answers_108 ?_
      obtain ⟨m47, hm47, g, h⟩ := jst_some h
      refine J.is hG d_M_answers_109 g hm47 ?_
      refine J.aload_n 0 d_M_answers_110 rfl rfl ?_
      refine J.getF (n := 118) hG d_M_answers_111 fl_M_39 ck_109_28 rfl ?_
      refine J.bipush (v := (6 : Int32)) d_M_answers_114 kb_6 ?_
      refine J.iconst (v := (0 : Int32)) d_M_answers_116 ki_0 ?_
      obtain ⟨m48, hm48, g, h⟩ := jst_some h
      refine J.is hG d_M_answers_117 g hm48 ?_
      refine J.nop (pc' := 118) rfl ?_
      refine J.iconst (v := (0 : Int32)) d_M_answers_118 ki_0 ?_
      refine J.istore (lv := [(4, .int (0 : Int32)), (0, jr G 109), (1, .int v1), (2, .int v2), (3, .int v3)]) d_M_answers_119 (by decide) rfl ?_
      refine J.sub (ls' := [(0, jr G 109), (1, .int v1), (2, .int v2), (3, .int v3), (4, .int (0 : Int32))]) [1, 2, 3, 4, 0] rfl ?_
      refine jlp_M_answers_121 hG v1 v2 v3 _ ?_ _ (0 : Int32) m48 _ h
      intro m49 r h
      refine J.aload_n 0 d_M_answers_165 rfl rfl ?_
      refine J.getF (n := 113) hG d_M_answers_166 fl_M_19 ck_109_8 rfl ?_
      refine J.iload_n 1 d_M_answers_169 rfl rfl ?_
      obtain ⟨x50, ex50, g, h⟩ := jld_some h
      refine J.zl hG d_M_answers_170 g ex50 ?_
      refine J.if_eq 185 d_M_answers_171 rfl (fun c => ?_) (fun c => ?_)
      · rw [if_pos c] at h
        refine J.iconst (v := (1 : Int32)) d_M_answers_185 ki_1 ?_
        refine J.aload_n 0 d_M_answers_186 rfl rfl ?_
        refine J.getF (n := 121) hG d_M_answers_187 fl_M_48 ck_109_34 rfl ?_
        refine J.iload_n 3 d_M_answers_190 rfl rfl ?_
        obtain ⟨x51, ex51, g, h⟩ := jld_some h
        refine J.il hG d_M_answers_191 g ex51 ?_
        refine J.ishl d_M_answers_192 ?_
        refine J.istore (lv := [(4, .int ((1 : Int32) <<< (x51 &&& 31))), (0, jr G 109), (1, .int v1), (2, .int v2), (3, .int v3)]) d_M_answers_193 (by decide) rfl ?_
        refine J.aload_n 1 d_M_answers_195 rfl rfl ?_
        refine J.nop (pc' := 196) rfl ?_
        refine J.iload_n 2 d_M_answers_196 rfl rfl ?_
        obtain ⟨x52, m53, zm53, h⟩ := jbd_some h
        refine J.cVi Y_M_holdsE (As := [.int v1]) (rest := []) hG d_M_answers_197 mi_M_holdsE mv_M_holdsE lk_M_338 ⟨rfl, rfl, Nat.le_of_ble_eq_true rfl⟩ cq_109 cc_10 (c_M_holdsE hG zm53) rfl (Nat.le_trans jcN (Nat.le_of_ble_eq_true rfl)) ?_
        refine J.if_eq 222 d_M_answers_200 rfl (fun c => ?_) (fun c => ?_)
        · rw [if_pos c] at h
          cases h
          exact J.vret d_M_answers_222 rfl rfl
        · rw [if_neg c] at h
          refine J.aload_n 1 d_M_answers_203 rfl rfl ?_
          refine J.iload 0 d_M_answers_204 rfl ?_
          obtain ⟨x54, m55, zm55, h⟩ := jbd_some h
          refine J.cVi Y_M_hasRoom (As := [.int ((1 : Int32) <<< (x51 &&& 31))]) (rest := []) hG d_M_answers_206 mi_M_hasRoom mv_M_hasRoom lk_M_316 ⟨rfl, rfl, Nat.le_of_ble_eq_true rfl⟩ cq_109 cc_10 (c_M_hasRoom hG zm55) rfl (Nat.le_trans jcN (Nat.le_of_ble_eq_true rfl)) ?_
          refine J.if_eq 222 d_M_answers_209 rfl (fun c => ?_) (fun c => ?_)
          · rw [if_pos c] at h
            cases h
            exact J.vret d_M_answers_222 rfl rfl
          · rw [if_neg c] at h
            refine J.aload_n 1 d_M_answers_212 rfl rfl ?_
            refine J.nop (pc' := 213) rfl ?_
            refine J.iload_n 3 d_M_answers_213 rfl rfl ?_
            refine J.iload 0 d_M_answers_214 rfl ?_
            refine J.iconst (v := (0 : Int32)) d_M_answers_216 ki_0 ?_
            refine J.iload_n 4 d_M_answers_217 rfl rfl ?_
            refine J.iconst (v := (-1 : Int32)) d_M_answers_218 ki_m1 ?_
            obtain ⟨u56, m57, zm57, h⟩ := jbd_some h
            refine J.cVv Y_M_written (As := [.int v2, .int ((1 : Int32) <<< (x51 &&& 31)), .int (0 : Int32), .int v3, .int (-1 : Int32)]) (rest := []) hG d_M_answers_219 mi_M_written mv_M_written lk_M_319 ⟨rfl, rfl, Nat.le_of_ble_eq_true rfl⟩ cq_109 cc_10 (c_M_written hG zm57) rfl (Nat.le_trans jcN (Nat.le_of_ble_eq_true rfl)) ?_
            cases h
            exact J.vret d_M_answers_222 rfl rfl
      · rw [if_neg c] at h
        refine J.bipush (v := (63 : Int32)) d_M_answers_174 kb_63 ?_
        refine J.iconst (v := (1 : Int32)) d_M_answers_176 ki_1 ?_
        refine J.iload_n 2 d_M_answers_177 rfl rfl ?_
        refine J.nop (pc' := 178) rfl ?_
        refine J.ishl d_M_answers_178 ?_
        refine J.iconst (v := (-1 : Int32)) d_M_answers_179 ki_m1 ?_
        refine J.ixor d_M_answers_180 ?_
        refine J.iand d_M_answers_181 ?_
        refine J.goto 193 d_M_answers_182 rfl ?_
        refine J.istore (lv := [(4, .int ((63 : Int32) &&& (((1 : Int32) <<< (v2 &&& 31)) ^^^ (-1 : Int32)))), (0, jr G 109), (1, .int v1), (2, .int v2), (3, .int v3)]) d_M_answers_193 (by decide) rfl ?_
        refine J.aload_n 1 d_M_answers_195 rfl rfl ?_
        refine J.iload_n 2 d_M_answers_196 rfl rfl ?_
        obtain ⟨x58, m59, zm59, h⟩ := jbd_some h
        refine J.cVi Y_M_holdsE (As := [.int v1]) (rest := []) hG d_M_answers_197 mi_M_holdsE mv_M_holdsE lk_M_338 ⟨rfl, rfl, Nat.le_of_ble_eq_true rfl⟩ cq_109 cc_10 (c_M_holdsE hG zm59) rfl (Nat.le_trans jcN (Nat.le_of_ble_eq_true rfl)) ?_
        refine J.if_eq 222 d_M_answers_200 rfl (fun c => ?_) (fun c => ?_)
        · rw [if_pos c] at h
          cases h
          exact J.vret d_M_answers_222 rfl rfl
        · rw [if_neg c] at h
          refine J.aload_n 1 d_M_answers_203 rfl rfl ?_
          refine J.iload 0 d_M_answers_204 rfl ?_
          obtain ⟨x60, m61, zm61, h⟩ := jbd_some h
          refine J.cVi Y_M_hasRoom (As := [.int ((63 : Int32) &&& (((1 : Int32) <<< (v2 &&& 31)) ^^^ (-1 : Int32)))]) (rest := []) hG d_M_answers_206 mi_M_hasRoom mv_M_hasRoom lk_M_316 ⟨rfl, rfl, Nat.le_of_ble_eq_true rfl⟩ cq_109 cc_10 (c_M_hasRoom hG zm61) rfl (Nat.le_trans jcN (Nat.le_of_ble_eq_true rfl)) ?_
          refine J.nop (pc' := 209) rfl ?_
          refine J.if_eq 222 d_M_answers_209 rfl (fun c => ?_) (fun c => ?_)
          · rw [if_pos c] at h
            cases h
            exact J.vret d_M_answers_222 rfl rfl
          · rw [if_neg c] at h
            refine J.aload_n 1 d_M_answers_212 rfl rfl ?_
            refine J.iload_n 3 d_M_answers_213 rfl rfl ?_
            refine J.iload 0 d_M_answers_214 rfl ?_
            refine J.iconst (v := (0 : Int32)) d_M_answers_216 ki_0 ?_
            refine J.iload_n 4 d_M_answers_217 rfl rfl ?_
            refine J.iconst (v := (-1 : Int32)) d_M_answers_218 ki_m1 ?_
            obtain ⟨u62, m63, zm63, h⟩ := jbd_some h
            refine J.cVv Y_M_written (As := [.int v2, .int ((63 : Int32) &&& (((1 : Int32) <<< (v2 &&& 31)) ^^^ (-1 : Int32))), .int (0 : Int32), .int v3, .int (-1 : Int32)]) (rest := []) hG d_M_answers_219 mi_M_written mv_M_written lk_M_319 ⟨rfl, rfl, Nat.le_of_ble_eq_true rfl⟩ cq_109 cc_10 (c_M_written hG zm63) rfl (Nat.le_trans jcN (Nat.le_of_ble_eq_true rfl)) ?_
            refine J.nop (pc' := 222) rfl ?_
            cases h
            exact J.vret d_M_answers_222 rfl rfl
  · rw [if_neg c] at h
    refine J.iconst (v := (1 : Int32)) d_M_answers_82 ki_1 ?_
    refine J.goto 87 d_M_answers_83 rfl ?_
    obtain ⟨x64, m65, zm65, h⟩ := jbd_some h
    refine J.cSi Y_M_is (As := [.int (1 : Int32)]) (rest := [.int (5 : Int32), jr G 118]) d_M_answers_87 mi_M_is ms_M_is lk_M_270 ⟨rfl, rfl, Nat.le_of_ble_eq_true rfl⟩ (c_M_is hG zm65) rfl (Nat.le_trans (jcI (jcR jcN)) (Nat.le_of_ble_eq_true rfl)) ?_
    refine J.aload_n 0 d_M_answers_90 rfl rfl ?_
    refine J.getF (n := 126) hG d_M_answers_91 fl_M_63 ck_109_39 rfl ?_
    refine J.iload_n 3 d_M_answers_94 rfl rfl ?_
    obtain ⟨x66, ex66, g, h⟩ := jld_some h
    refine J.il hG d_M_answers_95 g ex66 ?_
    refine J.iconst (v := (-1 : Int32)) d_M_answers_96 ki_m1 ?_
    refine J.icmp_eq 104 d_M_answers_97 rfl (fun c => ?_) (fun c => ?_)
    · rw [if_pos c] at h
      refine J.iconst (v := (0 : Int32)) d_M_answers_104 ki_0 ?_
      obtain ⟨x67, m68, zm68, h⟩ := jbd_some h
      refine J.cSi Y_M_is (As := [.int (0 : Int32)]) (rest := [.int x64, .int (5 : Int32), jr G 118]) d_M_answers_105 mi_M_is ms_M_is lk_M_270 ⟨rfl, rfl, Nat.le_of_ble_eq_true rfl⟩ (c_M_is hG zm68) rfl (Nat.le_trans (jcI (jcI (jcR jcN))) (Nat.le_of_ble_eq_true rfl)) ?_
      refine J.iadd d_M_answers_108 ?_
      obtain ⟨m69, hm69, g, h⟩ := jst_some h
      refine J.is hG d_M_answers_109 g hm69 ?_
      refine J.aload_n 0 d_M_answers_110 rfl rfl ?_
      refine J.getF (n := 118) hG d_M_answers_111 fl_M_39 ck_109_28 rfl ?_
      refine J.bipush (v := (6 : Int32)) d_M_answers_114 kb_6 ?_
      refine J.iconst (v := (0 : Int32)) d_M_answers_116 ki_0 ?_
      refine J.nop (pc' := 117) rfl ?_
      obtain ⟨m70, hm70, g, h⟩ := jst_some h
      refine J.is hG d_M_answers_117 g hm70 ?_
      refine J.iconst (v := (0 : Int32)) d_M_answers_118 ki_0 ?_
      refine J.istore (lv := [(4, .int (0 : Int32)), (0, jr G 109), (1, .int v1), (2, .int v2), (3, .int v3)]) d_M_answers_119 (by decide) rfl ?_
      refine J.sub (ls' := [(0, jr G 109), (1, .int v1), (2, .int v2), (3, .int v3), (4, .int (0 : Int32))]) [1, 2, 3, 4, 0] rfl ?_
      refine jlp_M_answers_121 hG v1 v2 v3 _ ?_ _ (0 : Int32) m70 _ h
      intro m71 r h
      refine J.aload_n 0 d_M_answers_165 rfl rfl ?_
      refine J.getF (n := 113) hG d_M_answers_166 fl_M_19 ck_109_8 rfl ?_
      refine J.iload_n 1 d_M_answers_169 rfl rfl ?_
      obtain ⟨x72, ex72, g, h⟩ := jld_some h
      refine J.zl hG d_M_answers_170 g ex72 ?_
      refine J.if_eq 185 d_M_answers_171 rfl (fun c => ?_) (fun c => ?_)
      · rw [if_pos c] at h
        refine J.iconst (v := (1 : Int32)) d_M_answers_185 ki_1 ?_
        refine J.aload_n 0 d_M_answers_186 rfl rfl ?_
        refine J.getF (n := 121) hG d_M_answers_187 fl_M_48 ck_109_34 rfl ?_
        refine J.iload_n 3 d_M_answers_190 rfl rfl ?_
        obtain ⟨x73, ex73, g, h⟩ := jld_some h
        refine J.il hG d_M_answers_191 g ex73 ?_
        refine J.ishl d_M_answers_192 ?_
        refine J.istore (lv := [(4, .int ((1 : Int32) <<< (x73 &&& 31))), (0, jr G 109), (1, .int v1), (2, .int v2), (3, .int v3)]) d_M_answers_193 (by decide) rfl ?_
        refine J.aload_n 1 d_M_answers_195 rfl rfl ?_
        refine J.nop (pc' := 196) rfl ?_
        refine J.iload_n 2 d_M_answers_196 rfl rfl ?_
        obtain ⟨x74, m75, zm75, h⟩ := jbd_some h
        refine J.cVi Y_M_holdsE (As := [.int v1]) (rest := []) hG d_M_answers_197 mi_M_holdsE mv_M_holdsE lk_M_338 ⟨rfl, rfl, Nat.le_of_ble_eq_true rfl⟩ cq_109 cc_10 (c_M_holdsE hG zm75) rfl (Nat.le_trans jcN (Nat.le_of_ble_eq_true rfl)) ?_
        refine J.if_eq 222 d_M_answers_200 rfl (fun c => ?_) (fun c => ?_)
        · rw [if_pos c] at h
          cases h
          exact J.vret d_M_answers_222 rfl rfl
        · rw [if_neg c] at h
          refine J.aload_n 1 d_M_answers_203 rfl rfl ?_
          refine J.iload 0 d_M_answers_204 rfl ?_
          obtain ⟨x76, m77, zm77, h⟩ := jbd_some h
          refine J.cVi Y_M_hasRoom (As := [.int ((1 : Int32) <<< (x73 &&& 31))]) (rest := []) hG d_M_answers_206 mi_M_hasRoom mv_M_hasRoom lk_M_316 ⟨rfl, rfl, Nat.le_of_ble_eq_true rfl⟩ cq_109 cc_10 (c_M_hasRoom hG zm77) rfl (Nat.le_trans jcN (Nat.le_of_ble_eq_true rfl)) ?_
          refine J.if_eq 222 d_M_answers_209 rfl (fun c => ?_) (fun c => ?_)
          · rw [if_pos c] at h
            cases h
            exact J.vret d_M_answers_222 rfl rfl
          · rw [if_neg c] at h
            refine J.aload_n 1 d_M_answers_212 rfl rfl ?_
            refine J.nop (pc' := 213) rfl ?_
            refine J.iload_n 3 d_M_answers_213 rfl rfl ?_
            refine J.iload 0 d_M_answers_214 rfl ?_
            refine J.iconst (v := (0 : Int32)) d_M_answers_216 ki_0 ?_
            refine J.iload_n 4 d_M_answers_217 rfl rfl ?_
            refine J.iconst (v := (-1 : Int32)) d_M_answers_218 ki_m1 ?_
            obtain ⟨u78, m79, zm79, h⟩ := jbd_some h
            refine J.cVv Y_M_written (As := [.int v2, .int ((1 : Int32) <<< (x73 &&& 31)), .int (0 : Int32), .int v3, .int (-1 : Int32)]) (rest := []) hG d_M_answers_219 mi_M_written mv_M_written lk_M_319 ⟨rfl, rfl, Nat.le_of_ble_eq_true rfl⟩ cq_109 cc_10 (c_M_written hG zm79) rfl (Nat.le_trans jcN (Nat.le_of_ble_eq_true rfl)) ?_
            cases h
            exact J.vret d_M_answers_222 rfl rfl
      · rw [if_neg c] at h
        refine J.bipush (v := (63 : Int32)) d_M_answers_174 kb_63 ?_
        refine J.iconst (v := (1 : Int32)) d_M_answers_176 ki_1 ?_
        refine J.iload_n 2 d_M_answers_177 rfl rfl ?_
        refine J.nop (pc' := 178) rfl ?_
        refine J.ishl d_M_answers_178 ?_
        refine J.iconst (v := (-1 : Int32)) d_M_answers_179 ki_m1 ?_
        refine J.ixor d_M_answers_180 ?_
        refine J.iand d_M_answers_181 ?_
        refine J.goto 193 d_M_answers_182 rfl ?_
        refine J.istore (lv := [(4, .int ((63 : Int32) &&& (((1 : Int32) <<< (v2 &&& 31)) ^^^ (-1 : Int32)))), (0, jr G 109), (1, .int v1), (2, .int v2), (3, .int v3)]) d_M_answers_193 (by decide) rfl ?_
        refine J.aload_n 1 d_M_answers_195 rfl rfl ?_
        refine J.iload_n 2 d_M_answers_196 rfl rfl ?_
        obtain ⟨x80, m81, zm81, h⟩ := jbd_some h
        refine J.cVi Y_M_holdsE (As := [.int v1]) (rest := []) hG d_M_answers_197 mi_M_holdsE mv_M_holdsE lk_M_338 ⟨rfl, rfl, Nat.le_of_ble_eq_true rfl⟩ cq_109 cc_10 (c_M_holdsE hG zm81) rfl (Nat.le_trans jcN (Nat.le_of_ble_eq_true rfl)) ?_
        refine J.if_eq 222 d_M_answers_200 rfl (fun c => ?_) (fun c => ?_)
        · rw [if_pos c] at h
          cases h
          exact J.vret d_M_answers_222 rfl rfl
        · rw [if_neg c] at h
          refine J.aload_n 1 d_M_answers_203 rfl rfl ?_
          refine J.iload 0 d_M_answers_204 rfl ?_
          obtain ⟨x82, m83, zm83, h⟩ := jbd_some h
          refine J.cVi Y_M_hasRoom (As := [.int ((63 : Int32) &&& (((1 : Int32) <<< (v2 &&& 31)) ^^^ (-1 : Int32)))]) (rest := []) hG d_M_answers_206 mi_M_hasRoom mv_M_hasRoom lk_M_316 ⟨rfl, rfl, Nat.le_of_ble_eq_true rfl⟩ cq_109 cc_10 (c_M_hasRoom hG zm83) rfl (Nat.le_trans jcN (Nat.le_of_ble_eq_true rfl)) ?_
          refine J.nop (pc' := 209) rfl ?_
          refine J.if_eq 222 d_M_answers_209 rfl (fun c => ?_) (fun c => ?_)
          · rw [if_pos c] at h
            cases h
            exact J.vret d_M_answers_222 rfl rfl
          · rw [if_neg c] at h
            refine J.aload_n 1 d_M_answers_212 rfl rfl ?_
            refine J.iload_n 3 d_M_answers_213 rfl rfl ?_
            refine J.iload 0 d_M_answers_214 rfl ?_
            refine J.iconst (v := (0 : Int32)) d_M_answers_216 ki_0 ?_
            refine J.iload_n 4 d_M_answers_217 rfl rfl ?_
            refine J.iconst (v := (-1 : Int32)) d_M_answers_218 ki_m1 ?_
            obtain ⟨u84, m85, zm85, h⟩ := jbd_some h
            refine J.cVv Y_M_written (As := [.int v2, .int ((63 : Int32) &&& (((1 : Int32) <<< (v2 &&& 31)) ^^^ (-1 : Int32))), .int (0 : Int32), .int v3, .int (-1 : Int32)]) (rest := []) hG d_M_answers_219 mi_M_written mv_M_written lk_M_319 ⟨rfl, rfl, Nat.le_of_ble_eq_true rfl⟩ cq_109 cc_10 (c_M_written hG zm85) rfl (Nat.le_trans jcN (Nat.le_of_ble_eq_true rfl)) ?_
            refine J.nop (pc' := 222) rfl ?_
            cases h
            exact J.vret d_M_answers_222 rfl rfl
    · rw [if_neg c] at h
      refine J.iconst (v := (1 : Int32)) d_M_answers_100 ki_1 ?_
      refine J.nop (pc' := 101) rfl ?_
      refine J.goto 105 d_M_answers_101 rfl ?_
      obtain ⟨x86, m87, zm87, h⟩ := jbd_some h
      refine J.cSi Y_M_is (As := [.int (1 : Int32)]) (rest := [.int x64, .int (5 : Int32), jr G 118]) d_M_answers_105 mi_M_is ms_M_is lk_M_270 ⟨rfl, rfl, Nat.le_of_ble_eq_true rfl⟩ (c_M_is hG zm87) rfl (Nat.le_trans (jcI (jcI (jcR jcN))) (Nat.le_of_ble_eq_true rfl)) ?_
      refine J.iadd d_M_answers_108 ?_
      obtain ⟨m88, hm88, g, h⟩ := jst_some h
      refine J.is hG d_M_answers_109 g hm88 ?_
      refine J.aload_n 0 d_M_answers_110 rfl rfl ?_
      refine J.getF (n := 118) hG d_M_answers_111 fl_M_39 ck_109_28 rfl ?_
      refine J.bipush (v := (6 : Int32)) d_M_answers_114 kb_6 ?_
      refine J.iconst (v := (0 : Int32)) d_M_answers_116 ki_0 ?_
      obtain ⟨m89, hm89, g, h⟩ := jst_some h
      refine J.is hG d_M_answers_117 g hm89 ?_
      refine J.nop (pc' := 118) rfl ?_
      refine J.iconst (v := (0 : Int32)) d_M_answers_118 ki_0 ?_
      refine J.istore (lv := [(4, .int (0 : Int32)), (0, jr G 109), (1, .int v1), (2, .int v2), (3, .int v3)]) d_M_answers_119 (by decide) rfl ?_
      refine J.sub (ls' := [(0, jr G 109), (1, .int v1), (2, .int v2), (3, .int v3), (4, .int (0 : Int32))]) [1, 2, 3, 4, 0] rfl ?_
      refine jlp_M_answers_121 hG v1 v2 v3 _ ?_ _ (0 : Int32) m89 _ h
      intro m90 r h
      refine J.aload_n 0 d_M_answers_165 rfl rfl ?_
      refine J.getF (n := 113) hG d_M_answers_166 fl_M_19 ck_109_8 rfl ?_
      refine J.iload_n 1 d_M_answers_169 rfl rfl ?_
      obtain ⟨x91, ex91, g, h⟩ := jld_some h
      refine J.zl hG d_M_answers_170 g ex91 ?_
      refine J.if_eq 185 d_M_answers_171 rfl (fun c => ?_) (fun c => ?_)
      · rw [if_pos c] at h
        refine J.iconst (v := (1 : Int32)) d_M_answers_185 ki_1 ?_
        refine J.aload_n 0 d_M_answers_186 rfl rfl ?_
        refine J.getF (n := 121) hG d_M_answers_187 fl_M_48 ck_109_34 rfl ?_
        refine J.iload_n 3 d_M_answers_190 rfl rfl ?_
        obtain ⟨x92, ex92, g, h⟩ := jld_some h
        refine J.il hG d_M_answers_191 g ex92 ?_
        refine J.ishl d_M_answers_192 ?_
        refine J.istore (lv := [(4, .int ((1 : Int32) <<< (x92 &&& 31))), (0, jr G 109), (1, .int v1), (2, .int v2), (3, .int v3)]) d_M_answers_193 (by decide) rfl ?_
        refine J.aload_n 1 d_M_answers_195 rfl rfl ?_
        refine J.nop (pc' := 196) rfl ?_
        refine J.iload_n 2 d_M_answers_196 rfl rfl ?_
        obtain ⟨x93, m94, zm94, h⟩ := jbd_some h
        refine J.cVi Y_M_holdsE (As := [.int v1]) (rest := []) hG d_M_answers_197 mi_M_holdsE mv_M_holdsE lk_M_338 ⟨rfl, rfl, Nat.le_of_ble_eq_true rfl⟩ cq_109 cc_10 (c_M_holdsE hG zm94) rfl (Nat.le_trans jcN (Nat.le_of_ble_eq_true rfl)) ?_
        refine J.if_eq 222 d_M_answers_200 rfl (fun c => ?_) (fun c => ?_)
        · rw [if_pos c] at h
          cases h
          exact J.vret d_M_answers_222 rfl rfl
        · rw [if_neg c] at h
          refine J.aload_n 1 d_M_answers_203 rfl rfl ?_
          refine J.iload 0 d_M_answers_204 rfl ?_
          obtain ⟨x95, m96, zm96, h⟩ := jbd_some h
          refine J.cVi Y_M_hasRoom (As := [.int ((1 : Int32) <<< (x92 &&& 31))]) (rest := []) hG d_M_answers_206 mi_M_hasRoom mv_M_hasRoom lk_M_316 ⟨rfl, rfl, Nat.le_of_ble_eq_true rfl⟩ cq_109 cc_10 (c_M_hasRoom hG zm96) rfl (Nat.le_trans jcN (Nat.le_of_ble_eq_true rfl)) ?_
          refine J.if_eq 222 d_M_answers_209 rfl (fun c => ?_) (fun c => ?_)
          · rw [if_pos c] at h
            cases h
            exact J.vret d_M_answers_222 rfl rfl
          · rw [if_neg c] at h
            refine J.aload_n 1 d_M_answers_212 rfl rfl ?_
            refine J.nop (pc' := 213) rfl ?_
            refine J.iload_n 3 d_M_answers_213 rfl rfl ?_
            refine J.iload 0 d_M_answers_214 rfl ?_
            refine J.iconst (v := (0 : Int32)) d_M_answers_216 ki_0 ?_
            refine J.iload_n 4 d_M_answers_217 rfl rfl ?_
            refine J.iconst (v := (-1 : Int32)) d_M_answers_218 ki_m1 ?_
            obtain ⟨u97, m98, zm98, h⟩ := jbd_some h
            refine J.cVv Y_M_written (As := [.int v2, .int ((1 : Int32) <<< (x92 &&& 31)), .int (0 : Int32), .int v3, .int (-1 : Int32)]) (rest := []) hG d_M_answers_219 mi_M_written mv_M_written lk_M_319 ⟨rfl, rfl, Nat.le_of_ble_eq_true rfl⟩ cq_109 cc_10 (c_M_written hG zm98) rfl (Nat.le_trans jcN (Nat.le_of_ble_eq_true rfl)) ?_
            cases h
            exact J.vret d_M_answers_222 rfl rfl
      · rw [if_neg c] at h
        refine J.bipush (v := (63 : Int32)) d_M_answers_174 kb_63 ?_
        refine J.iconst (v := (1 : Int32)) d_M_answers_176 ki_1 ?_
        refine J.iload_n 2 d_M_answers_177 rfl rfl ?_
        refine J.nop (pc' := 178) rfl ?_
        refine J.ishl d_M_answers_178 ?_
        refine J.iconst (v := (-1 : Int32)) d_M_answers_179 ki_m1 ?_
        refine J.ixor d_M_answers_180 ?_
        refine J.iand d_M_answers_181 ?_
        refine J.goto 193 d_M_answers_182 rfl ?_
        refine J.istore (lv := [(4, .int ((63 : Int32) &&& (((1 : Int32) <<< (v2 &&& 31)) ^^^ (-1 : Int32)))), (0, jr G 109), (1, .int v1), (2, .int v2), (3, .int v3)]) d_M_answers_193 (by decide) rfl ?_
        refine J.aload_n 1 d_M_answers_195 rfl rfl ?_
        refine J.iload_n 2 d_M_answers_196 rfl rfl ?_
        obtain ⟨x99, m100, zm100, h⟩ := jbd_some h
        refine J.cVi Y_M_holdsE (As := [.int v1]) (rest := []) hG d_M_answers_197 mi_M_holdsE mv_M_holdsE lk_M_338 ⟨rfl, rfl, Nat.le_of_ble_eq_true rfl⟩ cq_109 cc_10 (c_M_holdsE hG zm100) rfl (Nat.le_trans jcN (Nat.le_of_ble_eq_true rfl)) ?_
        refine J.if_eq 222 d_M_answers_200 rfl (fun c => ?_) (fun c => ?_)
        · rw [if_pos c] at h
          cases h
          exact J.vret d_M_answers_222 rfl rfl
        · rw [if_neg c] at h
          refine J.aload_n 1 d_M_answers_203 rfl rfl ?_
          refine J.iload 0 d_M_answers_204 rfl ?_
          obtain ⟨x101, m102, zm102, h⟩ := jbd_some h
          refine J.cVi Y_M_hasRoom (As := [.int ((63 : Int32) &&& (((1 : Int32) <<< (v2 &&& 31)) ^^^ (-1 : Int32)))]) (rest := []) hG d_M_answers_206 mi_M_hasRoom mv_M_hasRoom lk_M_316 ⟨rfl, rfl, Nat.le_of_ble_eq_true rfl⟩ cq_109 cc_10 (c_M_hasRoom hG zm102) rfl (Nat.le_trans jcN (Nat.le_of_ble_eq_true rfl)) ?_
          refine J.nop (pc' := 209) rfl ?_
          refine J.if_eq 222 d_M_answers_209 rfl (fun c => ?_) (fun c => ?_)
          · rw [if_pos c] at h
            cases h
            exact J.vret d_M_answers_222 rfl rfl
          · rw [if_neg c] at h
            refine J.aload_n 1 d_M_answers_212 rfl rfl ?_
            refine J.iload_n 3 d_M_answers_213 rfl rfl ?_
            refine J.iload 0 d_M_answers_214 rfl ?_
            refine J.iconst (v := (0 : Int32)) d_M_answers_216 ki_0 ?_
            refine J.iload_n 4 d_M_answers_217 rfl rfl ?_
            refine J.iconst (v := (-1 : Int32)) d_M_answers_218 ki_m1 ?_
            obtain ⟨u103, m104, zm104, h⟩ := jbd_some h
            refine J.cVv Y_M_written (As := [.int v2, .int ((63 : Int32) &&& (((1 : Int32) <<< (v2 &&& 31)) ^^^ (-1 : Int32))), .int (0 : Int32), .int v3, .int (-1 : Int32)]) (rest := []) hG d_M_answers_219 mi_M_written mv_M_written lk_M_319 ⟨rfl, rfl, Nat.le_of_ble_eq_true rfl⟩ cq_109 cc_10 (c_M_written hG zm104) rfl (Nat.le_trans jcN (Nat.le_of_ble_eq_true rfl)) ?_
            refine J.nop (pc' := 222) rfl ?_
            cases h
            exact J.vret d_M_answers_222 rfl rfl

def lp_M_readsNow_20 (v1 : Int32) (v2 : Int32) (k63 : jMem → Option (Unit × jMem)) : Nat → Int32 → jMem → Option (Unit × jMem)
  | 0, _, _ => none
  | n + 1, v4, m =>
    jld 1 m 138 v1 fun x5 =>
    if x5 ≤ v4 then
      k63 m
    else
      jld 1 m 137 ((((30 : Int32) * v1) + v4) + (1 : Int32)) fun x6 =>
      jst 1 m 137 (((30 : Int32) * v1) + v4) x6 fun m7 =>
      lp_M_readsNow_20 v1 v2 k63 n (v4 + (1 : Int32)) m7
def lp_M_readsNow_103 (v1 : Int32) (v2 : Int32) (k151 : jMem → Option (Unit × jMem)) : Nat → Int32 → jMem → Option (Unit × jMem)
  | 0, _, _ => none
  | n + 1, v4, m =>
    if (m 109 11) ≤ v4 then
      k151 m
    else
      jld 1 m 114 v4 fun x13 =>
      if x13 = 0 then
        jbd (f_M_answers v4 v1 v2 m) fun u14 m15 =>
        lp_M_readsNow_103 v1 v2 k151 n (v4 + (1 : Int32)) m15
      else
        jld 1 m 114 v4 fun x16 =>
        if ((x16 >>> (v1 &&& 31)) &&& (1 : Int32)) = (1 : Int32) then
          jbd (f_M_answers v4 v1 v2 m) fun u17 m18 =>
          lp_M_readsNow_103 v1 v2 k151 n (v4 + (1 : Int32)) m18
        else
          lp_M_readsNow_103 v1 v2 k151 n (v4 + (1 : Int32)) m
def f_M_readsNow (v1 : Int32) (v2 : Int32) (m : jMem) : Option (Unit × jMem) :=
  jbd (f_M_deskPlace v1 v2 m) fun x1 m2 =>
  jld 1 m2 138 v1 fun x3 =>
  jst 1 m2 138 v1 (x3 - (1 : Int32)) fun m4 =>
  lp_M_readsNow_20 v1 v2 (fun m8 =>
    jld 1 m8 135 v1 fun x9 =>
    jst 1 m8 135 v1 (x9 ||| ((1 : Int32) <<< (v2 &&& 31))) fun m10 =>
    jst 1 m10 136 (((30 : Int32) * v1) + v2) (m10 109 31) fun m11 =>
    jpu m11 109 57 ((m11 109 57) + (1 : Int32)) fun m12 =>
    lp_M_readsNow_103 v1 v2 (fun m19 =>
      some ((), m19)) 5000 (0 : Int32) m12) 5000 x1 m4
theorem jlp_M_readsNow_20 {G : jG} (hG : jFul G) (v1 : Int32) (v2 : Int32) (k63 : jMem → Option (Unit × jMem))
    (hk63 : ∀ (m : jMem) (r : (Unit × jMem)), k63 m = some r → J G Y_M_readsNow 63 [(0, jr G 109), (1, .int v1), (2, .int v2)] [] m (jrv r)) : ∀ (n : Nat) (v4 : Int32) (m : jMem) (r : (Unit × jMem)), lp_M_readsNow_20 v1 v2 k63 n v4 m = some r → J G Y_M_readsNow 20 [(0, jr G 109), (1, .int v1), (2, .int v2), (4, .int v4)] [] m (jrv r) := by
  intro n
  induction n with
  | zero => intro v4 m r h; unfold lp_M_readsNow_20 at h; cases h
  | succ n ih =>
    intro v4 m r h
    unfold lp_M_readsNow_20 at h
    refine J.iload 3 d_M_readsNow_20 rfl ?_
    refine J.aload_n 0 d_M_readsNow_22 rfl rfl ?_
    refine J.getF (n := 138) hG d_M_readsNow_23 fl_M_99 ck_109_56 rfl ?_
    refine J.iload_n 1 d_M_readsNow_26 rfl rfl ?_
    obtain ⟨x5, ex5, g, h⟩ := jld_some h
    refine J.il hG d_M_readsNow_27 g ex5 ?_
    refine J.icmp_ge 63 d_M_readsNow_28 rfl (fun c => ?_) (fun c => ?_)
    · rw [if_pos c] at h
      exact J.sub (ls' := [(0, jr G 109), (1, .int v1), (2, .int v2)]) [0, 1, 2] rfl (hk63  m _ h)
    · rw [if_neg c] at h
      refine J.aload_n 0 d_M_readsNow_31 rfl rfl ?_
      refine J.getF (n := 137) hG d_M_readsNow_32 fl_M_96 ck_109_55 rfl ?_
      refine J.nop (pc' := 35) rfl ?_
      refine J.bipush (v := (30 : Int32)) d_M_readsNow_35 kb_30 ?_
      refine J.iload_n 1 d_M_readsNow_37 rfl rfl ?_
      refine J.imul d_M_readsNow_38 ?_
      refine J.iload 3 d_M_readsNow_39 rfl ?_
      refine J.iadd d_M_readsNow_41 ?_
      refine J.aload_n 0 d_M_readsNow_42 rfl rfl ?_
      refine J.getF (n := 137) hG d_M_readsNow_43 fl_M_96 ck_109_55 rfl ?_
      refine J.bipush (v := (30 : Int32)) d_M_readsNow_46 kb_30 ?_
      refine J.nop (pc' := 48) rfl ?_
      refine J.iload_n 1 d_M_readsNow_48 rfl rfl ?_
      refine J.imul d_M_readsNow_49 ?_
      refine J.iload 3 d_M_readsNow_50 rfl ?_
      refine J.iadd d_M_readsNow_52 ?_
      refine J.iconst (v := (1 : Int32)) d_M_readsNow_53 ki_1 ?_
      refine J.iadd d_M_readsNow_54 ?_
      obtain ⟨x6, ex6, g, h⟩ := jld_some h
      refine J.il hG d_M_readsNow_55 g ex6 ?_
      obtain ⟨m7, hm7, g, h⟩ := jst_some h
      refine J.is hG d_M_readsNow_56 g hm7 ?_
      refine J.nop (pc' := 57) rfl ?_
      refine J.iinc 3 (v := (1 : Int32)) (lv := [(4, .int (v4 + (1 : Int32))), (0, jr G 109), (1, .int v1), (2, .int v2)]) d_M_readsNow_57 rfl ki_1 (by decide) rfl ?_
      refine J.goto 20 d_M_readsNow_60 rfl ?_
      exact J.sub (ls' := [(0, jr G 109), (1, .int v1), (2, .int v2), (4, .int (v4 + (1 : Int32)))]) [1, 2, 3, 0] rfl (ih (v4 + (1 : Int32)) m7 _ h)
theorem jlp_M_readsNow_103 {G : jG} (hG : jFul G) (v1 : Int32) (v2 : Int32) (k151 : jMem → Option (Unit × jMem))
    (hk151 : ∀ (m : jMem) (r : (Unit × jMem)), k151 m = some r → J G Y_M_readsNow 151 [] [] m (jrv r)) : ∀ (n : Nat) (v4 : Int32) (m : jMem) (r : (Unit × jMem)), lp_M_readsNow_103 v1 v2 k151 n v4 m = some r → J G Y_M_readsNow 103 [(0, jr G 109), (1, .int v1), (2, .int v2), (4, .int v4)] [] m (jrv r) := by
  intro n
  induction n with
  | zero => intro v4 m r h; unfold lp_M_readsNow_103 at h; cases h
  | succ n ih =>
    intro v4 m r h
    unfold lp_M_readsNow_103 at h
    refine J.iload 3 d_M_readsNow_103 rfl ?_
    refine J.aload_n 0 d_M_readsNow_105 rfl rfl ?_
    refine J.getI hG d_M_readsNow_106 fl_M_261 ck_109_11 ?_
    refine J.icmp_ge 151 d_M_readsNow_109 rfl (fun c => ?_) (fun c => ?_)
    · rw [if_pos c] at h
      exact J.sub (ls' := []) [] rfl (hk151  m _ h)
    · rw [if_neg c] at h
      refine J.aload_n 0 d_M_readsNow_112 rfl rfl ?_
      refine J.getF (n := 114) hG d_M_readsNow_113 fl_M_23 ck_109_9 rfl ?_
      refine J.iload 3 d_M_readsNow_116 rfl ?_
      obtain ⟨x13, ex13, g, h⟩ := jld_some h
      refine J.il hG d_M_readsNow_118 g ex13 ?_
      refine J.nop (pc' := 119) rfl ?_
      refine J.if_eq 137 d_M_readsNow_119 rfl (fun c => ?_) (fun c => ?_)
      · rw [if_pos c] at h
        refine J.aload_n 0 d_M_readsNow_137 rfl rfl ?_
        refine J.iload 3 d_M_readsNow_138 rfl ?_
        refine J.iload_n 1 d_M_readsNow_140 rfl rfl ?_
        refine J.iload_n 2 d_M_readsNow_141 rfl rfl ?_
        obtain ⟨u14, m15, zm15, h⟩ := jbd_some h
        refine J.cVv Y_M_answers (As := [.int v4, .int v1, .int v2]) (rest := []) hG d_M_readsNow_142 mi_M_answers mv_M_answers lk_M_332 ⟨rfl, rfl, Nat.le_of_ble_eq_true rfl⟩ cq_109 cc_10 (c_M_answers hG zm15) rfl (Nat.le_trans jcN (Nat.le_of_ble_eq_true rfl)) ?_
        refine J.iinc 3 (v := (1 : Int32)) (lv := [(4, .int (v4 + (1 : Int32))), (0, jr G 109), (1, .int v1), (2, .int v2)]) d_M_readsNow_145 rfl ki_1 (by decide) rfl ?_
        refine J.goto 103 d_M_readsNow_148 rfl ?_
        exact J.sub (ls' := [(0, jr G 109), (1, .int v1), (2, .int v2), (4, .int (v4 + (1 : Int32)))]) [1, 2, 3, 0] rfl (ih (v4 + (1 : Int32)) m15 _ h)
      · rw [if_neg c] at h
        refine J.aload_n 0 d_M_readsNow_122 rfl rfl ?_
        refine J.getF (n := 114) hG d_M_readsNow_123 fl_M_23 ck_109_9 rfl ?_
        refine J.iload 3 d_M_readsNow_126 rfl ?_
        obtain ⟨x16, ex16, g, h⟩ := jld_some h
        refine J.il hG d_M_readsNow_128 g ex16 ?_
        refine J.iload_n 1 d_M_readsNow_129 rfl rfl ?_
        refine J.ishr d_M_readsNow_130 ?_
        refine J.iconst (v := (1 : Int32)) d_M_readsNow_131 ki_1 ?_
        refine J.nop (pc' := 132) rfl ?_
        refine J.iand d_M_readsNow_132 ?_
        refine J.iconst (v := (1 : Int32)) d_M_readsNow_133 ki_1 ?_
        refine J.icmp_ne 145 d_M_readsNow_134 rfl (fun c => ?_) (fun c => ?_)
        · rw [if_neg c] at h
          refine J.iinc 3 (v := (1 : Int32)) (lv := [(4, .int (v4 + (1 : Int32))), (0, jr G 109), (1, .int v1), (2, .int v2)]) d_M_readsNow_145 rfl ki_1 (by decide) rfl ?_
          refine J.goto 103 d_M_readsNow_148 rfl ?_
          exact J.sub (ls' := [(0, jr G 109), (1, .int v1), (2, .int v2), (4, .int (v4 + (1 : Int32)))]) [1, 2, 3, 0] rfl (ih (v4 + (1 : Int32)) m _ h)
        · rw [if_pos c] at h
          refine J.aload_n 0 d_M_readsNow_137 rfl rfl ?_
          refine J.iload 3 d_M_readsNow_138 rfl ?_
          refine J.iload_n 1 d_M_readsNow_140 rfl rfl ?_
          refine J.iload_n 2 d_M_readsNow_141 rfl rfl ?_
          obtain ⟨u17, m18, zm18, h⟩ := jbd_some h
          refine J.cVv Y_M_answers (As := [.int v4, .int v1, .int v2]) (rest := []) hG d_M_readsNow_142 mi_M_answers mv_M_answers lk_M_332 ⟨rfl, rfl, Nat.le_of_ble_eq_true rfl⟩ cq_109 cc_10 (c_M_answers hG zm18) rfl (Nat.le_trans jcN (Nat.le_of_ble_eq_true rfl)) ?_
          refine J.nop (pc' := 145) rfl ?_
          refine J.iinc 3 (v := (1 : Int32)) (lv := [(4, .int (v4 + (1 : Int32))), (0, jr G 109), (1, .int v1), (2, .int v2)]) d_M_readsNow_145 rfl ki_1 (by decide) rfl ?_
          refine J.goto 103 d_M_readsNow_148 rfl ?_
          exact J.sub (ls' := [(0, jr G 109), (1, .int v1), (2, .int v2), (4, .int (v4 + (1 : Int32)))]) [1, 2, 3, 0] rfl (ih (v4 + (1 : Int32)) m18 _ h)
theorem c_M_readsNow {G : jG} (hG : jFul G) {v1 : Int32} {v2 : Int32} {m : jMem} {r : (Unit × jMem)} (h : f_M_readsNow v1 v2 m = some r) : jCt G Y_M_readsNow [jr G 109, .int v1, .int v2] m (jrv r) := by
  refine jCt.ov (ls := [(0, jr G 109), (1, .int v1), (2, .int v2)]) mi_M_readsNow (jAvR (jAvI (jAvI jAvN))) (Nat.le_of_ble_eq_true rfl) ?_ ⟨rfl, rfl⟩
  unfold f_M_readsNow at h
  refine J.aload_n 0 d_M_readsNow_0 rfl rfl ?_
  refine J.iload_n 1 d_M_readsNow_1 rfl rfl ?_
  refine J.iload_n 2 d_M_readsNow_2 rfl rfl ?_
  obtain ⟨x1, m2, zm2, h⟩ := jbd_some h
  refine J.cVi Y_M_deskPlace (As := [.int v1, .int v2]) (rest := []) hG d_M_readsNow_3 mi_M_deskPlace mv_M_deskPlace lk_M_326 ⟨rfl, rfl, Nat.le_of_ble_eq_true rfl⟩ cq_109 cc_10 (c_M_deskPlace hG zm2) rfl (Nat.le_trans jcN (Nat.le_of_ble_eq_true rfl)) ?_
  refine J.istore_n (lv := [(3, .int x1), (0, jr G 109), (1, .int v1), (2, .int v2)]) d_M_readsNow_6 rfl (by decide) rfl ?_
  refine J.aload_n 1 d_M_readsNow_7 rfl rfl ?_
  refine J.getF (n := 138) hG d_M_readsNow_8 fl_M_99 ck_109_56 rfl ?_
  refine J.iload_n 2 d_M_readsNow_11 rfl rfl ?_
  refine J.nop (pc' := 12) rfl ?_
  refine J.dup2 d_M_readsNow_12 rfl (jr_cat _ _) ?_
  obtain ⟨x3, ex3, g, h⟩ := jld_some h
  refine J.il hG d_M_readsNow_13 g ex3 ?_
  refine J.iconst (v := (1 : Int32)) d_M_readsNow_14 ki_1 ?_
  refine J.isub d_M_readsNow_15 ?_
  obtain ⟨m4, hm4, g, h⟩ := jst_some h
  refine J.is hG d_M_readsNow_16 g hm4 ?_
  refine J.iload_n 0 d_M_readsNow_17 rfl rfl ?_
  refine J.istore (lv := [(4, .int x1), (3, .int x1), (0, jr G 109), (1, .int v1), (2, .int v2)]) d_M_readsNow_18 (by decide) rfl ?_
  refine J.sub (ls' := [(0, jr G 109), (1, .int v1), (2, .int v2), (4, .int x1)]) [2, 3, 4, 0] rfl ?_
  refine jlp_M_readsNow_20 hG v1 v2 _ ?_ _ x1 m4 _ h
  intro m8 r h
  refine J.aload_n 0 d_M_readsNow_63 rfl rfl ?_
  refine J.getF (n := 135) hG d_M_readsNow_64 fl_M_90 ck_109_53 rfl ?_
  refine J.iload_n 1 d_M_readsNow_67 rfl rfl ?_
  refine J.dup2 d_M_readsNow_68 rfl (jr_cat _ _) ?_
  obtain ⟨x9, ex9, g, h⟩ := jld_some h
  refine J.il hG d_M_readsNow_69 g ex9 ?_
  refine J.iconst (v := (1 : Int32)) d_M_readsNow_70 ki_1 ?_
  refine J.iload_n 2 d_M_readsNow_71 rfl rfl ?_
  refine J.ishl d_M_readsNow_72 ?_
  refine J.nop (pc' := 73) rfl ?_
  refine J.ior d_M_readsNow_73 ?_
  obtain ⟨m10, hm10, g, h⟩ := jst_some h
  refine J.is hG d_M_readsNow_74 g hm10 ?_
  refine J.aload_n 0 d_M_readsNow_75 rfl rfl ?_
  refine J.getF (n := 136) hG d_M_readsNow_76 fl_M_93 ck_109_54 rfl ?_
  refine J.bipush (v := (30 : Int32)) d_M_readsNow_79 kb_30 ?_
  refine J.iload_n 1 d_M_readsNow_81 rfl rfl ?_
  refine J.imul d_M_readsNow_82 ?_
  refine J.iload_n 2 d_M_readsNow_83 rfl rfl ?_
  refine J.nop (pc' := 84) rfl ?_
  refine J.iadd d_M_readsNow_84 ?_
  refine J.aload_n 0 d_M_readsNow_85 rfl rfl ?_
  refine J.getI hG d_M_readsNow_86 fl_M_295 ck_109_31 ?_
  obtain ⟨m11, hm11, g, h⟩ := jst_some h
  refine J.is hG d_M_readsNow_89 g hm11 ?_
  refine J.aload_n 0 d_M_readsNow_90 rfl rfl ?_
  refine J.dup d_M_readsNow_91 (jr_cat _ _) ?_
  refine J.getI hG d_M_readsNow_92 fl_M_330 ck_109_57 ?_
  refine J.iconst (v := (1 : Int32)) d_M_readsNow_95 ki_1 ?_
  refine J.nop (pc' := 96) rfl ?_
  refine J.iadd d_M_readsNow_96 ?_
  obtain ⟨m12, hm12, h⟩ := jpu_some h
  refine J.putI hG d_M_readsNow_97 fl_M_330 fp_10_57 ck_109_57 hm12 ?_
  refine J.iconst (v := (0 : Int32)) d_M_readsNow_100 ki_0 ?_
  refine J.istore (lv := [(4, .int (0 : Int32)), (0, jr G 109), (1, .int v1), (2, .int v2)]) d_M_readsNow_101 (by decide) rfl ?_
  refine J.sub (ls' := [(0, jr G 109), (1, .int v1), (2, .int v2), (4, .int (0 : Int32))]) [1, 2, 3, 0] rfl ?_
  refine jlp_M_readsNow_103 hG v1 v2 _ ?_ _ (0 : Int32) m12 _ h
  intro m19 r h
  cases h
  exact J.vret d_M_readsNow_151 rfl rfl

def lp_M_goesBy_12 (k134 : jMem → Option (Unit × jMem)) : Nat → Int32 → jMem → Option (Unit × jMem)
  | 0, _, _ => none
  | n + 1, v1, m =>
    if (m 109 44) ≤ v1 then
      k134 m
    else
      jld 1 m 134 v1 fun x2 =>
      if x2 = 0 then
        jld 1 m 133 v1 fun x3 =>
        if x3 = (m 109 31) then
          jst 1 m 134 v1 (1 : Int32) fun m4 =>
          jld 1 m4 132 v1 fun x5 =>
          jld 1 m4 135 x5 fun x6 =>
          jld 1 m4 130 v1 fun x7 =>
          if ((x6 >>> (x7 &&& 31)) &&& (1 : Int32)) = (1 : Int32) then
            lp_M_goesBy_12 k134 n (v1 + (1 : Int32)) m4
          else
            jld 1 m4 130 v1 fun x8 =>
            jbd (f_M_deskPlace x5 x8 m4) fun x9 m10 =>
            if x9 = (-1 : Int32) then
              jld 1 m10 138 x5 fun x11 =>
              jld 1 m10 130 v1 fun x12 =>
              jst 1 m10 137 (((30 : Int32) * x5) + x11) x12 fun m13 =>
              jld 1 m13 138 x5 fun x14 =>
              jst 1 m13 138 x5 (x14 + (1 : Int32)) fun m15 =>
              lp_M_goesBy_12 k134 n (v1 + (1 : Int32)) m15
            else
              lp_M_goesBy_12 k134 n (v1 + (1 : Int32)) m10
        else
          lp_M_goesBy_12 k134 n (v1 + (1 : Int32)) m
      else
        lp_M_goesBy_12 k134 n (v1 + (1 : Int32)) m
def lp_M_goesBy_144 (v1 : Int32) (k201 : jMem → Option (Unit × jMem)) : Nat → Int32 → jMem → Option (Unit × jMem)
  | 0, _, _ => none
  | n + 1, v2, m =>
    jld 1 m 138 v1 fun x17 =>
    if x17 ≤ v2 then
      k201 m
    else
      jld 1 m 137 (((30 : Int32) * v1) + v2) fun x18 =>
      jld 1 m 116 v1 fun x19 =>
      if x19 = 0 then
        lp_M_goesBy_144 v1 k201 n (v2 + (1 : Int32)) m
      else
        jbd (f_M_waitsFor v1 x18 m) fun x20 m21 =>
        if x20 = 0 then
          jbd (f_M_readsNow v1 x18 m21) fun u22 m23 =>
          lp_M_goesBy_144 v1 k201 n (0 : Int32) m23
        else
          lp_M_goesBy_144 v1 k201 n (v2 + (1 : Int32)) m21
def lp_M_goesBy_136 (k207 : jMem → Option (Unit × jMem)) : Nat → Int32 → jMem → Option (Unit × jMem)
  | 0, _, _ => none
  | n + 1, v1, m =>
    if (6 : Int32) ≤ v1 then
      k207 m
    else
      lp_M_goesBy_144 v1 (fun m24 =>
        lp_M_goesBy_136 k207 n (v1 + (1 : Int32)) m24) 5000 (0 : Int32) m
def f_M_goesBy (m : jMem) : Option (Unit × jMem) :=
  jpu m 109 31 ((m 109 31) + (1 : Int32)) fun m1 =>
  lp_M_goesBy_12 (fun m16 =>
    lp_M_goesBy_136 (fun m25 =>
      some ((), m25)) 5000 (0 : Int32) m16) 5000 (0 : Int32) m1
theorem jlp_M_goesBy_12 {G : jG} (hG : jFul G) (k134 : jMem → Option (Unit × jMem))
    (hk134 : ∀ (m : jMem) (r : (Unit × jMem)), k134 m = some r → J G Y_M_goesBy 134 [(0, jr G 109)] [] m (jrv r)) : ∀ (n : Nat) (v1 : Int32) (m : jMem) (r : (Unit × jMem)), lp_M_goesBy_12 k134 n v1 m = some r → J G Y_M_goesBy 12 [(0, jr G 109), (1, .int v1)] [] m (jrv r) := by
  intro n
  induction n with
  | zero => intro v1 m r h; unfold lp_M_goesBy_12 at h; cases h
  | succ n ih =>
    intro v1 m r h
    unfold lp_M_goesBy_12 at h
    refine J.iload_n 1 d_M_goesBy_12 rfl rfl ?_
    refine J.aload_n 0 d_M_goesBy_13 rfl rfl ?_
    refine J.getI hG d_M_goesBy_14 fl_M_292 ck_109_44 ?_
    refine J.icmp_ge 134 d_M_goesBy_17 rfl (fun c => ?_) (fun c => ?_)
    · rw [if_pos c] at h
      exact J.sub (ls' := [(0, jr G 109)]) [0] rfl (hk134  m _ h)
    · rw [if_neg c] at h
      refine J.aload_n 0 d_M_goesBy_20 rfl rfl ?_
      refine J.getF (n := 134) hG d_M_goesBy_21 fl_M_87 ck_109_49 rfl ?_
      refine J.iload_n 1 d_M_goesBy_24 rfl rfl ?_
      obtain ⟨x2, ex2, g, h⟩ := jld_some h
      refine J.il hG d_M_goesBy_25 g ex2 ?_
      refine J.nop (pc' := 26) rfl ?_
      refine J.if_ne 128 d_M_goesBy_26 rfl (fun c => ?_) (fun c => ?_)
      · rw [if_neg c] at h
        refine J.iinc 1 (v := (1 : Int32)) (lv := [(1, .int (v1 + (1 : Int32))), (0, jr G 109)]) d_M_goesBy_128 rfl ki_1 (by decide) rfl ?_
        refine J.goto 12 d_M_goesBy_131 rfl ?_
        exact J.sub (ls' := [(0, jr G 109), (1, .int (v1 + (1 : Int32)))]) [1, 0] rfl (ih (v1 + (1 : Int32)) m _ h)
      · rw [if_pos c] at h
        refine J.aload_n 0 d_M_goesBy_29 rfl rfl ?_
        refine J.getF (n := 133) hG d_M_goesBy_30 fl_M_84 ck_109_48 rfl ?_
        refine J.iload_n 1 d_M_goesBy_33 rfl rfl ?_
        obtain ⟨x3, ex3, g, h⟩ := jld_some h
        refine J.il hG d_M_goesBy_34 g ex3 ?_
        refine J.aload_n 0 d_M_goesBy_35 rfl rfl ?_
        refine J.getI hG d_M_goesBy_36 fl_M_295 ck_109_31 ?_
        refine J.icmp_eq 45 d_M_goesBy_39 rfl (fun c => ?_) (fun c => ?_)
        · rw [if_pos c] at h
          refine J.aload_n 0 d_M_goesBy_45 rfl rfl ?_
          refine J.getF (n := 134) hG d_M_goesBy_46 fl_M_87 ck_109_49 rfl ?_
          refine J.iload_n 1 d_M_goesBy_49 rfl rfl ?_
          refine J.iconst (v := (1 : Int32)) d_M_goesBy_50 ki_1 ?_
          obtain ⟨m4, hm4, g, h⟩ := jst_some h
          refine J.is hG d_M_goesBy_51 g hm4 ?_
          refine J.aload_n 0 d_M_goesBy_52 rfl rfl ?_
          refine J.getF (n := 132) hG d_M_goesBy_53 fl_M_81 ck_109_47 rfl ?_
          refine J.iload_n 1 d_M_goesBy_56 rfl rfl ?_
          refine J.nop (pc' := 57) rfl ?_
          obtain ⟨x5, ex5, g, h⟩ := jld_some h
          refine J.il hG d_M_goesBy_57 g ex5 ?_
          refine J.istore_n (lv := [(2, .int x5), (0, jr G 109), (1, .int v1)]) d_M_goesBy_58 rfl (by decide) rfl ?_
          refine J.aload_n 1 d_M_goesBy_59 rfl rfl ?_
          refine J.getF (n := 135) hG d_M_goesBy_60 fl_M_90 ck_109_53 rfl ?_
          refine J.iload_n 0 d_M_goesBy_63 rfl rfl ?_
          obtain ⟨x6, ex6, g, h⟩ := jld_some h
          refine J.il hG d_M_goesBy_64 g ex6 ?_
          refine J.aload_n 1 d_M_goesBy_65 rfl rfl ?_
          refine J.getF (n := 130) hG d_M_goesBy_66 fl_M_75 ck_109_45 rfl ?_
          refine J.nop (pc' := 69) rfl ?_
          refine J.iload_n 2 d_M_goesBy_69 rfl rfl ?_
          obtain ⟨x7, ex7, g, h⟩ := jld_some h
          refine J.il hG d_M_goesBy_70 g ex7 ?_
          refine J.ishr d_M_goesBy_71 ?_
          refine J.iconst (v := (1 : Int32)) d_M_goesBy_72 ki_1 ?_
          refine J.iand d_M_goesBy_73 ?_
          refine J.iconst (v := (1 : Int32)) d_M_goesBy_74 ki_1 ?_
          refine J.icmp_eq 128 d_M_goesBy_75 rfl (fun c => ?_) (fun c => ?_)
          · rw [if_pos c] at h
            refine J.iinc 2 (v := (1 : Int32)) (lv := [(1, .int (v1 + (1 : Int32))), (2, .int x5), (0, jr G 109)]) d_M_goesBy_128 rfl ki_1 (by decide) rfl ?_
            refine J.goto 12 d_M_goesBy_131 rfl ?_
            exact J.sub (ls' := [(0, jr G 109), (1, .int (v1 + (1 : Int32)))]) [2, 0] rfl (ih (v1 + (1 : Int32)) m4 _ h)
          · rw [if_neg c] at h
            refine J.aload_n 1 d_M_goesBy_78 rfl rfl ?_
            refine J.nop (pc' := 79) rfl ?_
            refine J.iload_n 0 d_M_goesBy_79 rfl rfl ?_
            refine J.aload_n 1 d_M_goesBy_80 rfl rfl ?_
            refine J.getF (n := 130) hG d_M_goesBy_81 fl_M_75 ck_109_45 rfl ?_
            refine J.iload_n 2 d_M_goesBy_84 rfl rfl ?_
            obtain ⟨x8, ex8, g, h⟩ := jld_some h
            refine J.il hG d_M_goesBy_85 g ex8 ?_
            obtain ⟨x9, m10, zm10, h⟩ := jbd_some h
            refine J.cVi Y_M_deskPlace (As := [.int x5, .int x8]) (rest := []) hG d_M_goesBy_86 mi_M_deskPlace mv_M_deskPlace lk_M_326 ⟨rfl, rfl, Nat.le_of_ble_eq_true rfl⟩ cq_109 cc_10 (c_M_deskPlace hG zm10) rfl (Nat.le_trans jcN (Nat.le_of_ble_eq_true rfl)) ?_
            refine J.iconst (v := (-1 : Int32)) d_M_goesBy_89 ki_m1 ?_
            refine J.icmp_eq 96 d_M_goesBy_90 rfl (fun c => ?_) (fun c => ?_)
            · rw [if_pos c] at h
              refine J.aload_n 1 d_M_goesBy_96 rfl rfl ?_
              refine J.getF (n := 137) hG d_M_goesBy_97 fl_M_96 ck_109_55 rfl ?_
              refine J.bipush (v := (30 : Int32)) d_M_goesBy_100 kb_30 ?_
              refine J.iload_n 0 d_M_goesBy_102 rfl rfl ?_
              refine J.imul d_M_goesBy_103 ?_
              refine J.aload_n 1 d_M_goesBy_104 rfl rfl ?_
              refine J.getF (n := 138) hG d_M_goesBy_105 fl_M_99 ck_109_56 rfl ?_
              refine J.iload_n 0 d_M_goesBy_108 rfl rfl ?_
              refine J.nop (pc' := 109) rfl ?_
              obtain ⟨x11, ex11, g, h⟩ := jld_some h
              refine J.il hG d_M_goesBy_109 g ex11 ?_
              refine J.iadd d_M_goesBy_110 ?_
              refine J.aload_n 1 d_M_goesBy_111 rfl rfl ?_
              refine J.getF (n := 130) hG d_M_goesBy_112 fl_M_75 ck_109_45 rfl ?_
              refine J.iload_n 2 d_M_goesBy_115 rfl rfl ?_
              obtain ⟨x12, ex12, g, h⟩ := jld_some h
              refine J.il hG d_M_goesBy_116 g ex12 ?_
              obtain ⟨m13, hm13, g, h⟩ := jst_some h
              refine J.is hG d_M_goesBy_117 g hm13 ?_
              refine J.aload_n 1 d_M_goesBy_118 rfl rfl ?_
              refine J.nop (pc' := 119) rfl ?_
              refine J.getF (n := 138) hG d_M_goesBy_119 fl_M_99 ck_109_56 rfl ?_
              refine J.iload_n 0 d_M_goesBy_122 rfl rfl ?_
              refine J.dup2 d_M_goesBy_123 rfl (jr_cat _ _) ?_
              obtain ⟨x14, ex14, g, h⟩ := jld_some h
              refine J.il hG d_M_goesBy_124 g ex14 ?_
              refine J.iconst (v := (1 : Int32)) d_M_goesBy_125 ki_1 ?_
              refine J.iadd d_M_goesBy_126 ?_
              obtain ⟨m15, hm15, g, h⟩ := jst_some h
              refine J.is hG d_M_goesBy_127 g hm15 ?_
              refine J.iinc 2 (v := (1 : Int32)) (lv := [(1, .int (v1 + (1 : Int32))), (2, .int x5), (0, jr G 109)]) d_M_goesBy_128 rfl ki_1 (by decide) rfl ?_
              refine J.nop (pc' := 131) rfl ?_
              refine J.goto 12 d_M_goesBy_131 rfl ?_
              exact J.sub (ls' := [(0, jr G 109), (1, .int (v1 + (1 : Int32)))]) [2, 0] rfl (ih (v1 + (1 : Int32)) m15 _ h)
            · rw [if_neg c] at h
              refine J.nop (pc' := 93) rfl ?_
              refine J.goto 128 d_M_goesBy_93 rfl ?_
              refine J.iinc 2 (v := (1 : Int32)) (lv := [(1, .int (v1 + (1 : Int32))), (2, .int x5), (0, jr G 109)]) d_M_goesBy_128 rfl ki_1 (by decide) rfl ?_
              refine J.goto 12 d_M_goesBy_131 rfl ?_
              exact J.sub (ls' := [(0, jr G 109), (1, .int (v1 + (1 : Int32)))]) [2, 0] rfl (ih (v1 + (1 : Int32)) m10 _ h)
        · rw [if_neg c] at h
          refine J.nop (pc' := 42) rfl ?_
          refine J.goto 128 d_M_goesBy_42 rfl ?_
          refine J.iinc 1 (v := (1 : Int32)) (lv := [(1, .int (v1 + (1 : Int32))), (0, jr G 109)]) d_M_goesBy_128 rfl ki_1 (by decide) rfl ?_
          refine J.goto 12 d_M_goesBy_131 rfl ?_
          exact J.sub (ls' := [(0, jr G 109), (1, .int (v1 + (1 : Int32)))]) [1, 0] rfl (ih (v1 + (1 : Int32)) m _ h)
theorem jlp_M_goesBy_144 {G : jG} (hG : jFul G) (v1 : Int32) (k201 : jMem → Option (Unit × jMem))
    (hk201 : ∀ (m : jMem) (r : (Unit × jMem)), k201 m = some r → J G Y_M_goesBy 201 [(0, jr G 109), (1, .int v1)] [] m (jrv r)) : ∀ (n : Nat) (v2 : Int32) (m : jMem) (r : (Unit × jMem)), lp_M_goesBy_144 v1 k201 n v2 m = some r → J G Y_M_goesBy 144 [(0, jr G 109), (1, .int v1), (2, .int v2)] [] m (jrv r) := by
  intro n
  induction n with
  | zero => intro v2 m r h; unfold lp_M_goesBy_144 at h; cases h
  | succ n ih =>
    intro v2 m r h
    unfold lp_M_goesBy_144 at h
    refine J.iload_n 2 d_M_goesBy_144 rfl rfl ?_
    refine J.aload_n 0 d_M_goesBy_145 rfl rfl ?_
    refine J.getF (n := 138) hG d_M_goesBy_146 fl_M_99 ck_109_56 rfl ?_
    refine J.iload_n 1 d_M_goesBy_149 rfl rfl ?_
    obtain ⟨x17, ex17, g, h⟩ := jld_some h
    refine J.il hG d_M_goesBy_150 g ex17 ?_
    refine J.icmp_ge 201 d_M_goesBy_151 rfl (fun c => ?_) (fun c => ?_)
    · rw [if_pos c] at h
      exact J.sub (ls' := [(0, jr G 109), (1, .int v1)]) [0, 1] rfl (hk201  m _ h)
    · rw [if_neg c] at h
      refine J.aload_n 0 d_M_goesBy_154 rfl rfl ?_
      refine J.getF (n := 137) hG d_M_goesBy_155 fl_M_96 ck_109_55 rfl ?_
      refine J.nop (pc' := 158) rfl ?_
      refine J.bipush (v := (30 : Int32)) d_M_goesBy_158 kb_30 ?_
      refine J.iload_n 1 d_M_goesBy_160 rfl rfl ?_
      refine J.imul d_M_goesBy_161 ?_
      refine J.iload_n 2 d_M_goesBy_162 rfl rfl ?_
      refine J.iadd d_M_goesBy_163 ?_
      obtain ⟨x18, ex18, g, h⟩ := jld_some h
      refine J.il hG d_M_goesBy_164 g ex18 ?_
      refine J.istore_n (lv := [(3, .int x18), (0, jr G 109), (1, .int v1), (2, .int v2)]) d_M_goesBy_165 rfl (by decide) rfl ?_
      refine J.aload_n 1 d_M_goesBy_166 rfl rfl ?_
      refine J.nop (pc' := 167) rfl ?_
      refine J.getF (n := 116) hG d_M_goesBy_167 fl_M_29 ck_109_13 rfl ?_
      refine J.iload_n 2 d_M_goesBy_170 rfl rfl ?_
      obtain ⟨x19, ex19, g, h⟩ := jld_some h
      refine J.il hG d_M_goesBy_171 g ex19 ?_
      refine J.if_eq 184 d_M_goesBy_172 rfl (fun c => ?_) (fun c => ?_)
      · rw [if_pos c] at h
        refine J.iinc 3 (v := (1 : Int32)) (lv := [(2, .int (v2 + (1 : Int32))), (3, .int x18), (0, jr G 109), (1, .int v1)]) d_M_goesBy_184 rfl ki_1 (by decide) rfl ?_
        refine J.goto 198 d_M_goesBy_187 rfl ?_
        refine J.goto 144 d_M_goesBy_198 rfl ?_
        exact J.sub (ls' := [(0, jr G 109), (1, .int v1), (2, .int (v2 + (1 : Int32)))]) [2, 3, 0] rfl (ih (v2 + (1 : Int32)) m _ h)
      · rw [if_neg c] at h
        refine J.aload_n 1 d_M_goesBy_175 rfl rfl ?_
        refine J.iload_n 2 d_M_goesBy_176 rfl rfl ?_
        refine J.iload_n 0 d_M_goesBy_177 rfl rfl ?_
        obtain ⟨x20, m21, zm21, h⟩ := jbd_some h
        refine J.cVi Y_M_waitsFor (As := [.int v1, .int x18]) (rest := []) hG d_M_goesBy_178 mi_M_waitsFor mv_M_waitsFor lk_M_341 ⟨rfl, rfl, Nat.le_of_ble_eq_true rfl⟩ cq_109 cc_10 (c_M_waitsFor hG zm21) rfl (Nat.le_trans jcN (Nat.le_of_ble_eq_true rfl)) ?_
        refine J.nop (pc' := 181) rfl ?_
        refine J.if_eq 190 d_M_goesBy_181 rfl (fun c => ?_) (fun c => ?_)
        · rw [if_pos c] at h
          refine J.aload_n 1 d_M_goesBy_190 rfl rfl ?_
          refine J.iload_n 2 d_M_goesBy_191 rfl rfl ?_
          refine J.iload_n 0 d_M_goesBy_192 rfl rfl ?_
          obtain ⟨u22, m23, zm23, h⟩ := jbd_some h
          refine J.cVv Y_M_readsNow (As := [.int v1, .int x18]) (rest := []) hG d_M_goesBy_193 mi_M_readsNow mv_M_readsNow lk_M_344 ⟨rfl, rfl, Nat.le_of_ble_eq_true rfl⟩ cq_109 cc_10 (c_M_readsNow hG zm23) rfl (Nat.le_trans jcN (Nat.le_of_ble_eq_true rfl)) ?_
          refine J.iconst (v := (0 : Int32)) d_M_goesBy_196 ki_0 ?_
          refine J.istore_n (lv := [(2, .int (0 : Int32)), (3, .int x18), (0, jr G 109), (1, .int v1)]) d_M_goesBy_197 rfl (by decide) rfl ?_
          refine J.goto 144 d_M_goesBy_198 rfl ?_
          exact J.sub (ls' := [(0, jr G 109), (1, .int v1), (2, .int (0 : Int32))]) [2, 3, 0] rfl (ih (0 : Int32) m23 _ h)
        · rw [if_neg c] at h
          refine J.iinc 3 (v := (1 : Int32)) (lv := [(2, .int (v2 + (1 : Int32))), (3, .int x18), (0, jr G 109), (1, .int v1)]) d_M_goesBy_184 rfl ki_1 (by decide) rfl ?_
          refine J.goto 198 d_M_goesBy_187 rfl ?_
          refine J.goto 144 d_M_goesBy_198 rfl ?_
          exact J.sub (ls' := [(0, jr G 109), (1, .int v1), (2, .int (v2 + (1 : Int32)))]) [2, 3, 0] rfl (ih (v2 + (1 : Int32)) m21 _ h)
theorem jlp_M_goesBy_136 {G : jG} (hG : jFul G) (k207 : jMem → Option (Unit × jMem))
    (hk207 : ∀ (m : jMem) (r : (Unit × jMem)), k207 m = some r → J G Y_M_goesBy 207 [] [] m (jrv r)) : ∀ (n : Nat) (v1 : Int32) (m : jMem) (r : (Unit × jMem)), lp_M_goesBy_136 k207 n v1 m = some r → J G Y_M_goesBy 136 [(0, jr G 109), (1, .int v1)] [] m (jrv r) := by
  intro n
  induction n with
  | zero => intro v1 m r h; unfold lp_M_goesBy_136 at h; cases h
  | succ n ih =>
    intro v1 m r h
    unfold lp_M_goesBy_136 at h
    refine J.iload_n 1 d_M_goesBy_136 rfl rfl ?_
    refine J.bipush (v := (6 : Int32)) d_M_goesBy_137 kb_6 ?_
    refine J.icmp_ge 207 d_M_goesBy_139 rfl (fun c => ?_) (fun c => ?_)
    · rw [if_pos c] at h
      exact J.sub (ls' := []) [] rfl (hk207  m _ h)
    · rw [if_neg c] at h
      refine J.iconst (v := (0 : Int32)) d_M_goesBy_142 ki_0 ?_
      refine J.istore_n (lv := [(2, .int (0 : Int32)), (0, jr G 109), (1, .int v1)]) d_M_goesBy_143 rfl (by decide) rfl ?_
      refine J.sub (ls' := [(0, jr G 109), (1, .int v1), (2, .int (0 : Int32))]) [1, 2, 0] rfl ?_
      refine jlp_M_goesBy_144 hG v1 _ ?_ _ (0 : Int32) m _ h
      intro m24 r h
      refine J.iinc 1 (v := (1 : Int32)) (lv := [(1, .int (v1 + (1 : Int32))), (0, jr G 109)]) d_M_goesBy_201 rfl ki_1 (by decide) rfl ?_
      refine J.goto 136 d_M_goesBy_204 rfl ?_
      exact J.sub (ls' := [(0, jr G 109), (1, .int (v1 + (1 : Int32)))]) [1, 0] rfl (ih (v1 + (1 : Int32)) m24 _ h)
theorem c_M_goesBy {G : jG} (hG : jFul G) {m : jMem} {r : (Unit × jMem)} (h : f_M_goesBy m = some r) : jCt G Y_M_goesBy [jr G 109] m (jrv r) := by
  refine jCt.ov (ls := [(0, jr G 109)]) mi_M_goesBy (jAvR jAvN) (Nat.le_of_ble_eq_true rfl) ?_ ⟨rfl, rfl⟩
  unfold f_M_goesBy at h
  refine J.aload_n 0 d_M_goesBy_0 rfl rfl ?_
  refine J.dup d_M_goesBy_1 (jr_cat _ _) ?_
  refine J.getI hG d_M_goesBy_2 fl_M_295 ck_109_31 ?_
  refine J.iconst (v := (1 : Int32)) d_M_goesBy_5 ki_1 ?_
  refine J.iadd d_M_goesBy_6 ?_
  obtain ⟨m1, hm1, h⟩ := jpu_some h
  refine J.putI hG d_M_goesBy_7 fl_M_295 fp_10_31 ck_109_31 hm1 ?_
  refine J.iconst (v := (0 : Int32)) d_M_goesBy_10 ki_0 ?_
  refine J.istore_n (lv := [(1, .int (0 : Int32)), (0, jr G 109)]) d_M_goesBy_11 rfl (by decide) rfl ?_
  refine J.sub (ls' := [(0, jr G 109), (1, .int (0 : Int32))]) [1, 0] rfl ?_
  refine jlp_M_goesBy_12 hG _ ?_ _ (0 : Int32) m1 _ h
  intro m16 r h
  refine J.iconst (v := (0 : Int32)) d_M_goesBy_134 ki_0 ?_
  refine J.istore_n (lv := [(1, .int (0 : Int32)), (0, jr G 109)]) d_M_goesBy_135 rfl (by decide) rfl ?_
  refine J.sub (ls' := [(0, jr G 109), (1, .int (0 : Int32))]) [1, 0] rfl ?_
  refine jlp_M_goesBy_136 hG _ ?_ _ (0 : Int32) m16 _ h
  intro m25 r h
  cases h
  exact J.vret d_M_goesBy_207 rfl rfl

def lp_M_days_31 (v1 : Int32) (k46 : jMem → Option (Int32 × jMem)) : Nat → Int32 → jMem → Option (Int32 × jMem)
  | 0, _, _ => none
  | n + 1, v2, m =>
    if v1 ≤ v2 then
      k46 m
    else
      jbd (f_M_goesBy m) fun u2 m3 =>
      lp_M_days_31 v1 k46 n (v2 + (1 : Int32)) m3
def f_M_days (v1 : Int32) (m : jMem) : Option (Int32 × jMem) :=
  jpu m 109 0 (0 : Int32) fun m1 =>
  if v1 < 0 then
    some ((-1 : Int32), m1)
  else
    if (99 : Int32) < v1 then
      some ((-1 : Int32), m1)
    else
      if ((m1 109 31) + v1) ≤ (999 : Int32) then
        lp_M_days_31 v1 (fun m4 =>
          some ((m4 109 31), m4)) 5000 (0 : Int32) m1
      else
        some ((-1 : Int32), m1)
theorem jlp_M_days_31 {G : jG} (hG : jFul G) (v1 : Int32) (k46 : jMem → Option (Int32 × jMem))
    (hk46 : ∀ (m : jMem) (r : (Int32 × jMem)), k46 m = some r → J G Y_M_days 46 [(0, jr G 109)] [] m (jri r)) : ∀ (n : Nat) (v2 : Int32) (m : jMem) (r : (Int32 × jMem)), lp_M_days_31 v1 k46 n v2 m = some r → J G Y_M_days 31 [(0, jr G 109), (1, .int v1), (2, .int v2)] [] m (jri r) := by
  intro n
  induction n with
  | zero => intro v2 m r h; unfold lp_M_days_31 at h; cases h
  | succ n ih =>
    intro v2 m r h
    unfold lp_M_days_31 at h
    refine J.iload_n 2 d_M_days_31 rfl rfl ?_
    refine J.iload_n 1 d_M_days_32 rfl rfl ?_
    refine J.icmp_ge 46 d_M_days_33 rfl (fun c => ?_) (fun c => ?_)
    · rw [if_pos c] at h
      exact J.sub (ls' := [(0, jr G 109)]) [0] rfl (hk46  m _ h)
    · rw [if_neg c] at h
      refine J.aload_n 0 d_M_days_36 rfl rfl ?_
      obtain ⟨u2, m3, zm3, h⟩ := jbd_some h
      refine J.cVv Y_M_goesBy (As := []) (rest := []) hG d_M_days_37 mi_M_goesBy mv_M_goesBy lk_M_347 ⟨rfl, rfl, Nat.le_of_ble_eq_true rfl⟩ cq_109 cc_10 (c_M_goesBy hG zm3) rfl (Nat.le_trans jcN (Nat.le_of_ble_eq_true rfl)) ?_
      refine J.iinc 2 (v := (1 : Int32)) (lv := [(2, .int (v2 + (1 : Int32))), (0, jr G 109), (1, .int v1)]) d_M_days_40 rfl ki_1 (by decide) rfl ?_
      refine J.goto 31 d_M_days_43 rfl ?_
      exact J.sub (ls' := [(0, jr G 109), (1, .int v1), (2, .int (v2 + (1 : Int32)))]) [1, 2, 0] rfl (ih (v2 + (1 : Int32)) m3 _ h)
theorem c_M_days {G : jG} (hG : jFul G) {v1 : Int32} {m : jMem} {r : (Int32 × jMem)} (h : f_M_days v1 m = some r) : jCt G Y_M_days [jr G 109, .int v1] m (jri r) := by
  refine jCt.ov (ls := [(0, jr G 109), (1, .int v1)]) mi_M_days (jAvR (jAvI jAvN)) (Nat.le_of_ble_eq_true rfl) ?_ ⟨rfl, rfl⟩
  unfold f_M_days at h
  refine J.aload_n 0 d_M_days_0 rfl rfl ?_
  refine J.iconst (v := (0 : Int32)) d_M_days_1 ki_0 ?_
  obtain ⟨m1, hm1, h⟩ := jpu_some h
  refine J.putI hG d_M_days_2 fl_M_132 fp_10_0 ck_109_0 hm1 ?_
  refine J.iload_n 1 d_M_days_5 rfl rfl ?_
  refine J.if_lt 27 d_M_days_6 rfl (fun c => ?_) (fun c => ?_)
  · rw [if_pos c] at h
    refine J.iconst (v := (-1 : Int32)) d_M_days_27 ki_m1 ?_
    cases h
    exact J.iret d_M_days_28 rfl (vp_nar_int _) rfl
  · rw [if_neg c] at h
    refine J.iload_n 1 d_M_days_9 rfl rfl ?_
    refine J.bipush (v := (99 : Int32)) d_M_days_10 kb_99 ?_
    refine J.icmp_gt 27 d_M_days_12 rfl (fun c => ?_) (fun c => ?_)
    · rw [if_pos c] at h
      refine J.iconst (v := (-1 : Int32)) d_M_days_27 ki_m1 ?_
      cases h
      exact J.iret d_M_days_28 rfl (vp_nar_int _) rfl
    · rw [if_neg c] at h
      refine J.nop (pc' := 15) rfl ?_
      refine J.aload_n 0 d_M_days_15 rfl rfl ?_
      refine J.getI hG d_M_days_16 fl_M_295 ck_109_31 ?_
      refine J.iload_n 1 d_M_days_19 rfl rfl ?_
      refine J.iadd d_M_days_20 ?_
      refine J.sipush (v := (999 : Int32)) d_M_days_21 ks_999 ?_
      refine J.icmp_le 29 d_M_days_24 rfl (fun c => ?_) (fun c => ?_)
      · rw [if_pos c] at h
        refine J.iconst (v := (0 : Int32)) d_M_days_29 ki_0 ?_
        refine J.istore_n (lv := [(2, .int (0 : Int32)), (0, jr G 109), (1, .int v1)]) d_M_days_30 rfl (by decide) rfl ?_
        refine J.sub (ls' := [(0, jr G 109), (1, .int v1), (2, .int (0 : Int32))]) [1, 2, 0] rfl ?_
        refine jlp_M_days_31 hG v1 _ ?_ _ (0 : Int32) m1 _ h
        intro m4 r h
        refine J.aload_n 0 d_M_days_46 rfl rfl ?_
        refine J.getI hG d_M_days_47 fl_M_295 ck_109_31 ?_
        cases h
        exact J.iret d_M_days_50 rfl (vp_nar_int _) rfl
      · rw [if_neg c] at h
        refine J.iconst (v := (-1 : Int32)) d_M_days_27 ki_m1 ?_
        cases h
        exact J.iret d_M_days_28 rfl (vp_nar_int _) rfl

def f_M_read (v1 : Int32) (v2 : Int32) (m : jMem) : Option (Int32 × jMem) :=
  jpu m 109 0 (0 : Int32) fun m1 =>
  jbd (f_M_isWriter v1 m1) fun x2 m3 =>
  if x2 = 0 then
    some ((-1 : Int32), m3)
  else
    jbd (f_M_deskPlace v1 v2 m3) fun x4 m5 =>
    if x4 = (-1 : Int32) then
      some ((-1 : Int32), m5)
    else
      jbd (f_M_readsNow v1 v2 m5) fun u6 m7 =>
      jld 1 m7 138 v1 fun x8 =>
      some (x8, m7)
theorem c_M_read {G : jG} (hG : jFul G) {v1 : Int32} {v2 : Int32} {m : jMem} {r : (Int32 × jMem)} (h : f_M_read v1 v2 m = some r) : jCt G Y_M_read [jr G 109, .int v1, .int v2] m (jri r) := by
  refine jCt.ov (ls := [(0, jr G 109), (1, .int v1), (2, .int v2)]) mi_M_read (jAvR (jAvI (jAvI jAvN))) (Nat.le_of_ble_eq_true rfl) ?_ ⟨rfl, rfl⟩
  unfold f_M_read at h
  refine J.aload_n 0 d_M_read_0 rfl rfl ?_
  refine J.iconst (v := (0 : Int32)) d_M_read_1 ki_0 ?_
  obtain ⟨m1, hm1, h⟩ := jpu_some h
  refine J.putI hG d_M_read_2 fl_M_132 fp_10_0 ck_109_0 hm1 ?_
  refine J.iload_n 1 d_M_read_5 rfl rfl ?_
  obtain ⟨x2, m3, zm3, h⟩ := jbd_some h
  refine J.cSi Y_M_isWriter (As := [.int v1]) (rest := []) d_M_read_6 mi_M_isWriter ms_M_isWriter lk_M_280 ⟨rfl, rfl, Nat.le_of_ble_eq_true rfl⟩ (c_M_isWriter hG zm3) rfl (Nat.le_trans jcN (Nat.le_of_ble_eq_true rfl)) ?_
  refine J.if_eq 22 d_M_read_9 rfl (fun c => ?_) (fun c => ?_)
  · rw [if_pos c] at h
    refine J.iconst (v := (-1 : Int32)) d_M_read_22 ki_m1 ?_
    cases h
    exact J.iret d_M_read_23 rfl (vp_nar_int _) rfl
  · rw [if_neg c] at h
    refine J.aload_n 0 d_M_read_12 rfl rfl ?_
    refine J.iload_n 1 d_M_read_13 rfl rfl ?_
    refine J.nop (pc' := 14) rfl ?_
    refine J.iload_n 2 d_M_read_14 rfl rfl ?_
    obtain ⟨x4, m5, zm5, h⟩ := jbd_some h
    refine J.cVi Y_M_deskPlace (As := [.int v1, .int v2]) (rest := []) hG d_M_read_15 mi_M_deskPlace mv_M_deskPlace lk_M_326 ⟨rfl, rfl, Nat.le_of_ble_eq_true rfl⟩ cq_109 cc_10 (c_M_deskPlace hG zm5) rfl (Nat.le_trans jcN (Nat.le_of_ble_eq_true rfl)) ?_
    refine J.iconst (v := (-1 : Int32)) d_M_read_18 ki_m1 ?_
    refine J.icmp_ne 24 d_M_read_19 rfl (fun c => ?_) (fun c => ?_)
    · rw [if_neg c] at h
      refine J.aload_n 0 d_M_read_24 rfl rfl ?_
      refine J.iload_n 1 d_M_read_25 rfl rfl ?_
      refine J.iload_n 2 d_M_read_26 rfl rfl ?_
      obtain ⟨u6, m7, zm7, h⟩ := jbd_some h
      refine J.cVv Y_M_readsNow (As := [.int v1, .int v2]) (rest := []) hG d_M_read_27 mi_M_readsNow mv_M_readsNow lk_M_344 ⟨rfl, rfl, Nat.le_of_ble_eq_true rfl⟩ cq_109 cc_10 (c_M_readsNow hG zm7) rfl (Nat.le_trans jcN (Nat.le_of_ble_eq_true rfl)) ?_
      refine J.aload_n 0 d_M_read_30 rfl rfl ?_
      refine J.getF (n := 138) hG d_M_read_31 fl_M_99 ck_109_56 rfl ?_
      refine J.iload_n 1 d_M_read_34 rfl rfl ?_
      obtain ⟨x8, ex8, g, h⟩ := jld_some h
      refine J.il hG d_M_read_35 g ex8 ?_
      refine J.nop (pc' := 36) rfl ?_
      cases h
      exact J.iret d_M_read_36 rfl (vp_nar_int _) rfl
    · rw [if_pos c] at h
      refine J.iconst (v := (-1 : Int32)) d_M_read_22 ki_m1 ?_
      cases h
      exact J.iret d_M_read_23 rfl (vp_nar_int _) rfl

def f_M_look (v1 : Int32) (v2 : Int32) (m : jMem) : Option (Int32 × jMem) :=
  jbd (f_M_isLetter v1 m) fun x1 m2 =>
  if x1 = 0 then
    jpu m2 109 0 (1 : Int32) fun m24 =>
    if (m24 109 0) = 0 then
      if v2 = (0 : Int32) then
        jld 1 m24 121 v1 fun x30 =>
        some (x30, m24)
      else
        if v2 = (1 : Int32) then
          jld 1 m24 122 v1 fun x29 =>
          some (x29, m24)
        else
          if v2 = (2 : Int32) then
            jld 1 m24 123 v1 fun x28 =>
            some (x28, m24)
          else
            if v2 = (3 : Int32) then
              jld 1 m24 124 v1 fun x27 =>
              some (x27, m24)
            else
              if v2 = (4 : Int32) then
                jld 1 m24 125 v1 fun x26 =>
                some (x26, m24)
              else
                jld 1 m24 126 v1 fun x25 =>
                some (x25, m24)
    else
      some ((0 : Int32), m24)
  else
    if v2 < 0 then
      jpu m2 109 0 (2 : Int32) fun m3 =>
      if (m3 109 0) = 0 then
        if v2 = (0 : Int32) then
          jld 1 m3 121 v1 fun x9 =>
          some (x9, m3)
        else
          if v2 = (1 : Int32) then
            jld 1 m3 122 v1 fun x8 =>
            some (x8, m3)
          else
            if v2 = (2 : Int32) then
              jld 1 m3 123 v1 fun x7 =>
              some (x7, m3)
            else
              if v2 = (3 : Int32) then
                jld 1 m3 124 v1 fun x6 =>
                some (x6, m3)
              else
                if v2 = (4 : Int32) then
                  jld 1 m3 125 v1 fun x5 =>
                  some (x5, m3)
                else
                  jld 1 m3 126 v1 fun x4 =>
                  some (x4, m3)
      else
        some ((0 : Int32), m3)
    else
      if v2 ≤ (5 : Int32) then
        jpu m2 109 0 (0 : Int32) fun m10 =>
        if (m10 109 0) = 0 then
          if v2 = (0 : Int32) then
            jld 1 m10 121 v1 fun x16 =>
            some (x16, m10)
          else
            if v2 = (1 : Int32) then
              jld 1 m10 122 v1 fun x15 =>
              some (x15, m10)
            else
              if v2 = (2 : Int32) then
                jld 1 m10 123 v1 fun x14 =>
                some (x14, m10)
              else
                if v2 = (3 : Int32) then
                  jld 1 m10 124 v1 fun x13 =>
                  some (x13, m10)
                else
                  if v2 = (4 : Int32) then
                    jld 1 m10 125 v1 fun x12 =>
                    some (x12, m10)
                  else
                    jld 1 m10 126 v1 fun x11 =>
                    some (x11, m10)
        else
          some ((0 : Int32), m10)
      else
        jpu m2 109 0 (2 : Int32) fun m17 =>
        if (m17 109 0) = 0 then
          if v2 = (0 : Int32) then
            jld 1 m17 121 v1 fun x23 =>
            some (x23, m17)
          else
            if v2 = (1 : Int32) then
              jld 1 m17 122 v1 fun x22 =>
              some (x22, m17)
            else
              if v2 = (2 : Int32) then
                jld 1 m17 123 v1 fun x21 =>
                some (x21, m17)
              else
                if v2 = (3 : Int32) then
                  jld 1 m17 124 v1 fun x20 =>
                  some (x20, m17)
                else
                  if v2 = (4 : Int32) then
                    jld 1 m17 125 v1 fun x19 =>
                    some (x19, m17)
                  else
                    jld 1 m17 126 v1 fun x18 =>
                    some (x18, m17)
        else
          some ((0 : Int32), m17)
theorem c_M_look {G : jG} (hG : jFul G) {v1 : Int32} {v2 : Int32} {m : jMem} {r : (Int32 × jMem)} (h : f_M_look v1 v2 m = some r) : jCt G Y_M_look [jr G 109, .int v1, .int v2] m (jri r) := by
  refine jCt.ov (ls := [(0, jr G 109), (1, .int v1), (2, .int v2)]) mi_M_look (jAvR (jAvI (jAvI jAvN))) (Nat.le_of_ble_eq_true rfl) ?_ ⟨rfl, rfl⟩
  unfold f_M_look at h
  refine J.aload_n 0 d_M_look_0 rfl rfl ?_
  refine J.aload_n 0 d_M_look_1 rfl rfl ?_
  refine J.iload_n 1 d_M_look_2 rfl rfl ?_
  obtain ⟨x1, m2, zm2, h⟩ := jbd_some h
  refine J.cVi Y_M_isLetter (As := [.int v1]) (rest := [jr G 109]) hG d_M_look_3 mi_M_isLetter mv_M_isLetter lk_M_309 ⟨rfl, rfl, Nat.le_of_ble_eq_true rfl⟩ cq_109 cc_10 (c_M_isLetter hG zm2) rfl (Nat.le_trans (jcR jcN) (Nat.le_of_ble_eq_true rfl)) ?_
  refine J.if_ne 13 d_M_look_6 rfl (fun c => ?_) (fun c => ?_)
  · rw [if_neg c] at h
    refine J.iload_n 2 d_M_look_13 rfl rfl ?_
    refine J.if_lt 22 d_M_look_14 rfl (fun c => ?_) (fun c => ?_)
    · rw [if_pos c] at h
      refine J.iconst (v := (2 : Int32)) d_M_look_22 ki_2 ?_
      refine J.goto 27 d_M_look_23 rfl ?_
      obtain ⟨m3, hm3, h⟩ := jpu_some h
      refine J.putI hG d_M_look_27 fl_M_132 fp_10_0 ck_109_0 hm3 ?_
      refine J.aload_n 0 d_M_look_30 rfl rfl ?_
      refine J.getI hG d_M_look_31 fl_M_132 ck_109_0 ?_
      refine J.if_eq 39 d_M_look_34 rfl (fun c => ?_) (fun c => ?_)
      · rw [if_pos c] at h
        refine J.iload_n 2 d_M_look_39 rfl rfl ?_
        by_cases c0 : v2 = (0 : Int32)
        · rw [if_pos c0] at h
          refine J.tsIn 76 d_M_look_40 c0 (by decide) (by decide) rfl (by decide) ?_
          refine J.aload_n 0 d_M_look_76 rfl rfl ?_
          refine J.getF (n := 121) hG d_M_look_77 fl_M_48 ck_109_34 rfl ?_
          refine J.iload_n 1 d_M_look_80 rfl rfl ?_
          obtain ⟨x9, ex9, g, h⟩ := jld_some h
          refine J.il hG d_M_look_81 g ex9 ?_
          cases h
          exact J.iret d_M_look_82 rfl (vp_nar_int _) rfl
        · rw [if_neg c0] at h
          by_cases c1 : v2 = (1 : Int32)
          · rw [if_pos c1] at h
            refine J.tsIn 83 d_M_look_40 c1 (by decide) (by decide) rfl (by decide) ?_
            refine J.aload_n 0 d_M_look_83 rfl rfl ?_
            refine J.getF (n := 122) hG d_M_look_84 fl_M_51 ck_109_35 rfl ?_
            refine J.iload_n 1 d_M_look_87 rfl rfl ?_
            obtain ⟨x8, ex8, g, h⟩ := jld_some h
            refine J.il hG d_M_look_88 g ex8 ?_
            cases h
            exact J.iret d_M_look_89 rfl (vp_nar_int _) rfl
          · rw [if_neg c1] at h
            by_cases c2 : v2 = (2 : Int32)
            · rw [if_pos c2] at h
              refine J.tsIn 90 d_M_look_40 c2 (by decide) (by decide) rfl (by decide) ?_
              refine J.aload_n 0 d_M_look_90 rfl rfl ?_
              refine J.getF (n := 123) hG d_M_look_91 fl_M_54 ck_109_36 rfl ?_
              refine J.iload_n 1 d_M_look_94 rfl rfl ?_
              obtain ⟨x7, ex7, g, h⟩ := jld_some h
              refine J.il hG d_M_look_95 g ex7 ?_
              cases h
              exact J.iret d_M_look_96 rfl (vp_nar_int _) rfl
            · rw [if_neg c2] at h
              by_cases c3 : v2 = (3 : Int32)
              · rw [if_pos c3] at h
                refine J.tsIn 97 d_M_look_40 c3 (by decide) (by decide) rfl (by decide) ?_
                refine J.aload_n 0 d_M_look_97 rfl rfl ?_
                refine J.getF (n := 124) hG d_M_look_98 fl_M_57 ck_109_37 rfl ?_
                refine J.iload_n 1 d_M_look_101 rfl rfl ?_
                obtain ⟨x6, ex6, g, h⟩ := jld_some h
                refine J.il hG d_M_look_102 g ex6 ?_
                cases h
                exact J.iret d_M_look_103 rfl (vp_nar_int _) rfl
              · rw [if_neg c3] at h
                by_cases c4 : v2 = (4 : Int32)
                · rw [if_pos c4] at h
                  refine J.tsIn 104 d_M_look_40 c4 (by decide) (by decide) rfl (by decide) ?_
                  refine J.aload_n 0 d_M_look_104 rfl rfl ?_
                  refine J.getF (n := 125) hG d_M_look_105 fl_M_60 ck_109_38 rfl ?_
                  refine J.iload_n 1 d_M_look_108 rfl rfl ?_
                  obtain ⟨x5, ex5, g, h⟩ := jld_some h
                  refine J.il hG d_M_look_109 g ex5 ?_
                  cases h
                  exact J.iret d_M_look_110 rfl (vp_nar_int _) rfl
                · rw [if_neg c4] at h
                  refine J.tsOut 111 d_M_look_40 (jts0 (n := 5) (by decide) (fun k hk => match k, hk with | 0, _ => c0 | 1, _ => c1 | 2, _ => c2 | 3, _ => c3 | 4, _ => c4 | k + 5, hk => absurd hk (by omega))) rfl ?_
                  refine J.aload_n 0 d_M_look_111 rfl rfl ?_
                  refine J.getF (n := 126) hG d_M_look_112 fl_M_63 ck_109_39 rfl ?_
                  refine J.iload_n 1 d_M_look_115 rfl rfl ?_
                  obtain ⟨x4, ex4, g, h⟩ := jld_some h
                  refine J.il hG d_M_look_116 g ex4 ?_
                  cases h
                  exact J.iret d_M_look_117 rfl (vp_nar_int _) rfl
      · rw [if_neg c] at h
        refine J.iconst (v := (0 : Int32)) d_M_look_37 ki_0 ?_
        cases h
        exact J.iret d_M_look_38 rfl (vp_nar_int _) rfl
    · rw [if_neg c] at h
      refine J.iload_n 2 d_M_look_17 rfl rfl ?_
      refine J.iconst (v := (5 : Int32)) d_M_look_18 ki_5 ?_
      refine J.icmp_le 26 d_M_look_19 rfl (fun c => ?_) (fun c => ?_)
      · rw [if_pos c] at h
        refine J.iconst (v := (0 : Int32)) d_M_look_26 ki_0 ?_
        obtain ⟨m10, hm10, h⟩ := jpu_some h
        refine J.putI hG d_M_look_27 fl_M_132 fp_10_0 ck_109_0 hm10 ?_
        refine J.aload_n 0 d_M_look_30 rfl rfl ?_
        refine J.getI hG d_M_look_31 fl_M_132 ck_109_0 ?_
        refine J.if_eq 39 d_M_look_34 rfl (fun c => ?_) (fun c => ?_)
        · rw [if_pos c] at h
          refine J.iload_n 2 d_M_look_39 rfl rfl ?_
          by_cases c0 : v2 = (0 : Int32)
          · rw [if_pos c0] at h
            refine J.tsIn 76 d_M_look_40 c0 (by decide) (by decide) rfl (by decide) ?_
            refine J.aload_n 0 d_M_look_76 rfl rfl ?_
            refine J.getF (n := 121) hG d_M_look_77 fl_M_48 ck_109_34 rfl ?_
            refine J.iload_n 1 d_M_look_80 rfl rfl ?_
            obtain ⟨x16, ex16, g, h⟩ := jld_some h
            refine J.il hG d_M_look_81 g ex16 ?_
            cases h
            exact J.iret d_M_look_82 rfl (vp_nar_int _) rfl
          · rw [if_neg c0] at h
            by_cases c1 : v2 = (1 : Int32)
            · rw [if_pos c1] at h
              refine J.tsIn 83 d_M_look_40 c1 (by decide) (by decide) rfl (by decide) ?_
              refine J.aload_n 0 d_M_look_83 rfl rfl ?_
              refine J.getF (n := 122) hG d_M_look_84 fl_M_51 ck_109_35 rfl ?_
              refine J.iload_n 1 d_M_look_87 rfl rfl ?_
              obtain ⟨x15, ex15, g, h⟩ := jld_some h
              refine J.il hG d_M_look_88 g ex15 ?_
              cases h
              exact J.iret d_M_look_89 rfl (vp_nar_int _) rfl
            · rw [if_neg c1] at h
              by_cases c2 : v2 = (2 : Int32)
              · rw [if_pos c2] at h
                refine J.tsIn 90 d_M_look_40 c2 (by decide) (by decide) rfl (by decide) ?_
                refine J.aload_n 0 d_M_look_90 rfl rfl ?_
                refine J.getF (n := 123) hG d_M_look_91 fl_M_54 ck_109_36 rfl ?_
                refine J.iload_n 1 d_M_look_94 rfl rfl ?_
                obtain ⟨x14, ex14, g, h⟩ := jld_some h
                refine J.il hG d_M_look_95 g ex14 ?_
                cases h
                exact J.iret d_M_look_96 rfl (vp_nar_int _) rfl
              · rw [if_neg c2] at h
                by_cases c3 : v2 = (3 : Int32)
                · rw [if_pos c3] at h
                  refine J.tsIn 97 d_M_look_40 c3 (by decide) (by decide) rfl (by decide) ?_
                  refine J.aload_n 0 d_M_look_97 rfl rfl ?_
                  refine J.getF (n := 124) hG d_M_look_98 fl_M_57 ck_109_37 rfl ?_
                  refine J.iload_n 1 d_M_look_101 rfl rfl ?_
                  obtain ⟨x13, ex13, g, h⟩ := jld_some h
                  refine J.il hG d_M_look_102 g ex13 ?_
                  cases h
                  exact J.iret d_M_look_103 rfl (vp_nar_int _) rfl
                · rw [if_neg c3] at h
                  by_cases c4 : v2 = (4 : Int32)
                  · rw [if_pos c4] at h
                    refine J.tsIn 104 d_M_look_40 c4 (by decide) (by decide) rfl (by decide) ?_
                    refine J.aload_n 0 d_M_look_104 rfl rfl ?_
                    refine J.getF (n := 125) hG d_M_look_105 fl_M_60 ck_109_38 rfl ?_
                    refine J.iload_n 1 d_M_look_108 rfl rfl ?_
                    obtain ⟨x12, ex12, g, h⟩ := jld_some h
                    refine J.il hG d_M_look_109 g ex12 ?_
                    cases h
                    exact J.iret d_M_look_110 rfl (vp_nar_int _) rfl
                  · rw [if_neg c4] at h
                    refine J.tsOut 111 d_M_look_40 (jts0 (n := 5) (by decide) (fun k hk => match k, hk with | 0, _ => c0 | 1, _ => c1 | 2, _ => c2 | 3, _ => c3 | 4, _ => c4 | k + 5, hk => absurd hk (by omega))) rfl ?_
                    refine J.aload_n 0 d_M_look_111 rfl rfl ?_
                    refine J.getF (n := 126) hG d_M_look_112 fl_M_63 ck_109_39 rfl ?_
                    refine J.iload_n 1 d_M_look_115 rfl rfl ?_
                    obtain ⟨x11, ex11, g, h⟩ := jld_some h
                    refine J.il hG d_M_look_116 g ex11 ?_
                    cases h
                    exact J.iret d_M_look_117 rfl (vp_nar_int _) rfl
        · rw [if_neg c] at h
          refine J.iconst (v := (0 : Int32)) d_M_look_37 ki_0 ?_
          cases h
          exact J.iret d_M_look_38 rfl (vp_nar_int _) rfl
      · rw [if_neg c] at h
        refine J.iconst (v := (2 : Int32)) d_M_look_22 ki_2 ?_
        refine J.goto 27 d_M_look_23 rfl ?_
        obtain ⟨m17, hm17, h⟩ := jpu_some h
        refine J.putI hG d_M_look_27 fl_M_132 fp_10_0 ck_109_0 hm17 ?_
        refine J.aload_n 0 d_M_look_30 rfl rfl ?_
        refine J.getI hG d_M_look_31 fl_M_132 ck_109_0 ?_
        refine J.if_eq 39 d_M_look_34 rfl (fun c => ?_) (fun c => ?_)
        · rw [if_pos c] at h
          refine J.iload_n 2 d_M_look_39 rfl rfl ?_
          by_cases c0 : v2 = (0 : Int32)
          · rw [if_pos c0] at h
            refine J.tsIn 76 d_M_look_40 c0 (by decide) (by decide) rfl (by decide) ?_
            refine J.aload_n 0 d_M_look_76 rfl rfl ?_
            refine J.getF (n := 121) hG d_M_look_77 fl_M_48 ck_109_34 rfl ?_
            refine J.iload_n 1 d_M_look_80 rfl rfl ?_
            obtain ⟨x23, ex23, g, h⟩ := jld_some h
            refine J.il hG d_M_look_81 g ex23 ?_
            cases h
            exact J.iret d_M_look_82 rfl (vp_nar_int _) rfl
          · rw [if_neg c0] at h
            by_cases c1 : v2 = (1 : Int32)
            · rw [if_pos c1] at h
              refine J.tsIn 83 d_M_look_40 c1 (by decide) (by decide) rfl (by decide) ?_
              refine J.aload_n 0 d_M_look_83 rfl rfl ?_
              refine J.getF (n := 122) hG d_M_look_84 fl_M_51 ck_109_35 rfl ?_
              refine J.iload_n 1 d_M_look_87 rfl rfl ?_
              obtain ⟨x22, ex22, g, h⟩ := jld_some h
              refine J.il hG d_M_look_88 g ex22 ?_
              cases h
              exact J.iret d_M_look_89 rfl (vp_nar_int _) rfl
            · rw [if_neg c1] at h
              by_cases c2 : v2 = (2 : Int32)
              · rw [if_pos c2] at h
                refine J.tsIn 90 d_M_look_40 c2 (by decide) (by decide) rfl (by decide) ?_
                refine J.aload_n 0 d_M_look_90 rfl rfl ?_
                refine J.getF (n := 123) hG d_M_look_91 fl_M_54 ck_109_36 rfl ?_
                refine J.iload_n 1 d_M_look_94 rfl rfl ?_
                obtain ⟨x21, ex21, g, h⟩ := jld_some h
                refine J.il hG d_M_look_95 g ex21 ?_
                cases h
                exact J.iret d_M_look_96 rfl (vp_nar_int _) rfl
              · rw [if_neg c2] at h
                by_cases c3 : v2 = (3 : Int32)
                · rw [if_pos c3] at h
                  refine J.tsIn 97 d_M_look_40 c3 (by decide) (by decide) rfl (by decide) ?_
                  refine J.aload_n 0 d_M_look_97 rfl rfl ?_
                  refine J.getF (n := 124) hG d_M_look_98 fl_M_57 ck_109_37 rfl ?_
                  refine J.iload_n 1 d_M_look_101 rfl rfl ?_
                  obtain ⟨x20, ex20, g, h⟩ := jld_some h
                  refine J.il hG d_M_look_102 g ex20 ?_
                  cases h
                  exact J.iret d_M_look_103 rfl (vp_nar_int _) rfl
                · rw [if_neg c3] at h
                  by_cases c4 : v2 = (4 : Int32)
                  · rw [if_pos c4] at h
                    refine J.tsIn 104 d_M_look_40 c4 (by decide) (by decide) rfl (by decide) ?_
                    refine J.aload_n 0 d_M_look_104 rfl rfl ?_
                    refine J.getF (n := 125) hG d_M_look_105 fl_M_60 ck_109_38 rfl ?_
                    refine J.iload_n 1 d_M_look_108 rfl rfl ?_
                    obtain ⟨x19, ex19, g, h⟩ := jld_some h
                    refine J.il hG d_M_look_109 g ex19 ?_
                    cases h
                    exact J.iret d_M_look_110 rfl (vp_nar_int _) rfl
                  · rw [if_neg c4] at h
                    refine J.tsOut 111 d_M_look_40 (jts0 (n := 5) (by decide) (fun k hk => match k, hk with | 0, _ => c0 | 1, _ => c1 | 2, _ => c2 | 3, _ => c3 | 4, _ => c4 | k + 5, hk => absurd hk (by omega))) rfl ?_
                    refine J.aload_n 0 d_M_look_111 rfl rfl ?_
                    refine J.getF (n := 126) hG d_M_look_112 fl_M_63 ck_109_39 rfl ?_
                    refine J.iload_n 1 d_M_look_115 rfl rfl ?_
                    obtain ⟨x18, ex18, g, h⟩ := jld_some h
                    refine J.il hG d_M_look_116 g ex18 ?_
                    cases h
                    exact J.iret d_M_look_117 rfl (vp_nar_int _) rfl
        · rw [if_neg c] at h
          refine J.iconst (v := (0 : Int32)) d_M_look_37 ki_0 ?_
          cases h
          exact J.iret d_M_look_38 rfl (vp_nar_int _) rfl
  · rw [if_pos c] at h
    refine J.iconst (v := (1 : Int32)) d_M_look_9 ki_1 ?_
    refine J.goto 27 d_M_look_10 rfl ?_
    obtain ⟨m24, hm24, h⟩ := jpu_some h
    refine J.putI hG d_M_look_27 fl_M_132 fp_10_0 ck_109_0 hm24 ?_
    refine J.aload_n 0 d_M_look_30 rfl rfl ?_
    refine J.getI hG d_M_look_31 fl_M_132 ck_109_0 ?_
    refine J.if_eq 39 d_M_look_34 rfl (fun c => ?_) (fun c => ?_)
    · rw [if_pos c] at h
      refine J.iload_n 2 d_M_look_39 rfl rfl ?_
      by_cases c0 : v2 = (0 : Int32)
      · rw [if_pos c0] at h
        refine J.tsIn 76 d_M_look_40 c0 (by decide) (by decide) rfl (by decide) ?_
        refine J.aload_n 0 d_M_look_76 rfl rfl ?_
        refine J.getF (n := 121) hG d_M_look_77 fl_M_48 ck_109_34 rfl ?_
        refine J.iload_n 1 d_M_look_80 rfl rfl ?_
        obtain ⟨x30, ex30, g, h⟩ := jld_some h
        refine J.il hG d_M_look_81 g ex30 ?_
        cases h
        exact J.iret d_M_look_82 rfl (vp_nar_int _) rfl
      · rw [if_neg c0] at h
        by_cases c1 : v2 = (1 : Int32)
        · rw [if_pos c1] at h
          refine J.tsIn 83 d_M_look_40 c1 (by decide) (by decide) rfl (by decide) ?_
          refine J.aload_n 0 d_M_look_83 rfl rfl ?_
          refine J.getF (n := 122) hG d_M_look_84 fl_M_51 ck_109_35 rfl ?_
          refine J.iload_n 1 d_M_look_87 rfl rfl ?_
          obtain ⟨x29, ex29, g, h⟩ := jld_some h
          refine J.il hG d_M_look_88 g ex29 ?_
          cases h
          exact J.iret d_M_look_89 rfl (vp_nar_int _) rfl
        · rw [if_neg c1] at h
          by_cases c2 : v2 = (2 : Int32)
          · rw [if_pos c2] at h
            refine J.tsIn 90 d_M_look_40 c2 (by decide) (by decide) rfl (by decide) ?_
            refine J.aload_n 0 d_M_look_90 rfl rfl ?_
            refine J.getF (n := 123) hG d_M_look_91 fl_M_54 ck_109_36 rfl ?_
            refine J.iload_n 1 d_M_look_94 rfl rfl ?_
            obtain ⟨x28, ex28, g, h⟩ := jld_some h
            refine J.il hG d_M_look_95 g ex28 ?_
            cases h
            exact J.iret d_M_look_96 rfl (vp_nar_int _) rfl
          · rw [if_neg c2] at h
            by_cases c3 : v2 = (3 : Int32)
            · rw [if_pos c3] at h
              refine J.tsIn 97 d_M_look_40 c3 (by decide) (by decide) rfl (by decide) ?_
              refine J.aload_n 0 d_M_look_97 rfl rfl ?_
              refine J.getF (n := 124) hG d_M_look_98 fl_M_57 ck_109_37 rfl ?_
              refine J.iload_n 1 d_M_look_101 rfl rfl ?_
              obtain ⟨x27, ex27, g, h⟩ := jld_some h
              refine J.il hG d_M_look_102 g ex27 ?_
              cases h
              exact J.iret d_M_look_103 rfl (vp_nar_int _) rfl
            · rw [if_neg c3] at h
              by_cases c4 : v2 = (4 : Int32)
              · rw [if_pos c4] at h
                refine J.tsIn 104 d_M_look_40 c4 (by decide) (by decide) rfl (by decide) ?_
                refine J.aload_n 0 d_M_look_104 rfl rfl ?_
                refine J.getF (n := 125) hG d_M_look_105 fl_M_60 ck_109_38 rfl ?_
                refine J.iload_n 1 d_M_look_108 rfl rfl ?_
                obtain ⟨x26, ex26, g, h⟩ := jld_some h
                refine J.il hG d_M_look_109 g ex26 ?_
                cases h
                exact J.iret d_M_look_110 rfl (vp_nar_int _) rfl
              · rw [if_neg c4] at h
                refine J.tsOut 111 d_M_look_40 (jts0 (n := 5) (by decide) (fun k hk => match k, hk with | 0, _ => c0 | 1, _ => c1 | 2, _ => c2 | 3, _ => c3 | 4, _ => c4 | k + 5, hk => absurd hk (by omega))) rfl ?_
                refine J.aload_n 0 d_M_look_111 rfl rfl ?_
                refine J.getF (n := 126) hG d_M_look_112 fl_M_63 ck_109_39 rfl ?_
                refine J.iload_n 1 d_M_look_115 rfl rfl ?_
                obtain ⟨x25, ex25, g, h⟩ := jld_some h
                refine J.il hG d_M_look_116 g ex25 ?_
                cases h
                exact J.iret d_M_look_117 rfl (vp_nar_int _) rfl
    · rw [if_neg c] at h
      refine J.iconst (v := (0 : Int32)) d_M_look_37 ki_0 ?_
      cases h
      exact J.iret d_M_look_38 rfl (vp_nar_int _) rfl

def f_M_copy (v1 : Int32) (v2 : Int32) (m : jMem) : Option (Int32 × jMem) :=
  jpu m 109 0 (0 : Int32) fun m1 =>
  if v1 < 0 then
    some ((-1 : Int32), m1)
  else
    if (m1 109 44) ≤ v1 then
      some ((-1 : Int32), m1)
    else
      if v2 < 0 then
        some ((-1 : Int32), m1)
      else
        if v2 ≤ (3 : Int32) then
          if v2 = 0 then
            jld 1 m1 130 v1 fun x5 =>
            some (x5, m1)
          else
            if v2 = (1 : Int32) then
              jld 1 m1 132 v1 fun x4 =>
              some (x4, m1)
            else
              if v2 = (2 : Int32) then
                jld 1 m1 133 v1 fun x3 =>
                some (x3, m1)
              else
                jld 1 m1 134 v1 fun x2 =>
                some (x2, m1)
        else
          some ((-1 : Int32), m1)
theorem c_M_copy {G : jG} (hG : jFul G) {v1 : Int32} {v2 : Int32} {m : jMem} {r : (Int32 × jMem)} (h : f_M_copy v1 v2 m = some r) : jCt G Y_M_copy [jr G 109, .int v1, .int v2] m (jri r) := by
  refine jCt.ov (ls := [(0, jr G 109), (1, .int v1), (2, .int v2)]) mi_M_copy (jAvR (jAvI (jAvI jAvN))) (Nat.le_of_ble_eq_true rfl) ?_ ⟨rfl, rfl⟩
  unfold f_M_copy at h
  refine J.aload_n 0 d_M_copy_0 rfl rfl ?_
  refine J.iconst (v := (0 : Int32)) d_M_copy_1 ki_0 ?_
  obtain ⟨m1, hm1, h⟩ := jpu_some h
  refine J.putI hG d_M_copy_2 fl_M_132 fp_10_0 ck_109_0 hm1 ?_
  refine J.iload_n 1 d_M_copy_5 rfl rfl ?_
  refine J.if_lt 26 d_M_copy_6 rfl (fun c => ?_) (fun c => ?_)
  · rw [if_pos c] at h
    refine J.iconst (v := (-1 : Int32)) d_M_copy_26 ki_m1 ?_
    cases h
    exact J.iret d_M_copy_27 rfl (vp_nar_int _) rfl
  · rw [if_neg c] at h
    refine J.iload_n 1 d_M_copy_9 rfl rfl ?_
    refine J.aload_n 0 d_M_copy_10 rfl rfl ?_
    refine J.getI hG d_M_copy_11 fl_M_292 ck_109_44 ?_
    refine J.nop (pc' := 14) rfl ?_
    refine J.icmp_ge 26 d_M_copy_14 rfl (fun c => ?_) (fun c => ?_)
    · rw [if_pos c] at h
      refine J.iconst (v := (-1 : Int32)) d_M_copy_26 ki_m1 ?_
      cases h
      exact J.iret d_M_copy_27 rfl (vp_nar_int _) rfl
    · rw [if_neg c] at h
      refine J.iload_n 2 d_M_copy_17 rfl rfl ?_
      refine J.if_lt 26 d_M_copy_18 rfl (fun c => ?_) (fun c => ?_)
      · rw [if_pos c] at h
        refine J.iconst (v := (-1 : Int32)) d_M_copy_26 ki_m1 ?_
        cases h
        exact J.iret d_M_copy_27 rfl (vp_nar_int _) rfl
      · rw [if_neg c] at h
        refine J.iload_n 2 d_M_copy_21 rfl rfl ?_
        refine J.iconst (v := (3 : Int32)) d_M_copy_22 ki_3 ?_
        refine J.icmp_le 28 d_M_copy_23 rfl (fun c => ?_) (fun c => ?_)
        · rw [if_pos c] at h
          refine J.iload_n 2 d_M_copy_28 rfl rfl ?_
          refine J.if_ne 41 d_M_copy_29 rfl (fun c => ?_) (fun c => ?_)
          · rw [if_neg c] at h
            refine J.iload_n 2 d_M_copy_41 rfl rfl ?_
            refine J.iconst (v := (1 : Int32)) d_M_copy_42 ki_1 ?_
            refine J.icmp_ne 55 d_M_copy_43 rfl (fun c => ?_) (fun c => ?_)
            · rw [if_neg c] at h
              refine J.iload_n 2 d_M_copy_55 rfl rfl ?_
              refine J.iconst (v := (2 : Int32)) d_M_copy_56 ki_2 ?_
              refine J.icmp_ne 69 d_M_copy_57 rfl (fun c => ?_) (fun c => ?_)
              · rw [if_neg c] at h
                refine J.aload_n 0 d_M_copy_69 rfl rfl ?_
                refine J.getF (n := 134) hG d_M_copy_70 fl_M_87 ck_109_49 rfl ?_
                refine J.iload_n 1 d_M_copy_73 rfl rfl ?_
                obtain ⟨x2, ex2, g, h⟩ := jld_some h
                refine J.il hG d_M_copy_74 g ex2 ?_
                cases h
                exact J.iret d_M_copy_75 rfl (vp_nar_int _) rfl
              · rw [if_pos c] at h
                refine J.aload_n 0 d_M_copy_60 rfl rfl ?_
                refine J.getF (n := 133) hG d_M_copy_61 fl_M_84 ck_109_48 rfl ?_
                refine J.iload_n 1 d_M_copy_64 rfl rfl ?_
                obtain ⟨x3, ex3, g, h⟩ := jld_some h
                refine J.il hG d_M_copy_65 g ex3 ?_
                refine J.goto 75 d_M_copy_66 rfl ?_
                cases h
                exact J.iret d_M_copy_75 rfl (vp_nar_int _) rfl
            · rw [if_pos c] at h
              refine J.aload_n 0 d_M_copy_46 rfl rfl ?_
              refine J.getF (n := 132) hG d_M_copy_47 fl_M_81 ck_109_47 rfl ?_
              refine J.iload_n 1 d_M_copy_50 rfl rfl ?_
              obtain ⟨x4, ex4, g, h⟩ := jld_some h
              refine J.il hG d_M_copy_51 g ex4 ?_
              refine J.goto 75 d_M_copy_52 rfl ?_
              cases h
              exact J.iret d_M_copy_75 rfl (vp_nar_int _) rfl
          · rw [if_pos c] at h
            refine J.aload_n 0 d_M_copy_32 rfl rfl ?_
            refine J.getF (n := 130) hG d_M_copy_33 fl_M_75 ck_109_45 rfl ?_
            refine J.iload_n 1 d_M_copy_36 rfl rfl ?_
            obtain ⟨x5, ex5, g, h⟩ := jld_some h
            refine J.il hG d_M_copy_37 g ex5 ?_
            refine J.goto 75 d_M_copy_38 rfl ?_
            cases h
            exact J.iret d_M_copy_75 rfl (vp_nar_int _) rfl
        · rw [if_neg c] at h
          refine J.iconst (v := (-1 : Int32)) d_M_copy_26 ki_m1 ?_
          cases h
          exact J.iret d_M_copy_27 rfl (vp_nar_int _) rfl

def f_M_desk (v1 : Int32) (v2 : Int32) (m : jMem) : Option (Int32 × jMem) :=
  jpu m 109 0 (0 : Int32) fun m1 =>
  jbd (f_M_isWriter v1 m1) fun x2 m3 =>
  if x2 = 0 then
    some ((-1 : Int32), m3)
  else
    if v2 < 0 then
      some ((-1 : Int32), m3)
    else
      jld 1 m3 138 v1 fun x4 =>
      if v2 < x4 then
        jld 1 m3 137 (((30 : Int32) * v1) + v2) fun x5 =>
        some (x5, m3)
      else
        some ((-1 : Int32), m3)
theorem c_M_desk {G : jG} (hG : jFul G) {v1 : Int32} {v2 : Int32} {m : jMem} {r : (Int32 × jMem)} (h : f_M_desk v1 v2 m = some r) : jCt G Y_M_desk [jr G 109, .int v1, .int v2] m (jri r) := by
  refine jCt.ov (ls := [(0, jr G 109), (1, .int v1), (2, .int v2)]) mi_M_desk (jAvR (jAvI (jAvI jAvN))) (Nat.le_of_ble_eq_true rfl) ?_ ⟨rfl, rfl⟩
  unfold f_M_desk at h
  refine J.aload_n 0 d_M_desk_0 rfl rfl ?_
  refine J.iconst (v := (0 : Int32)) d_M_desk_1 ki_0 ?_
  obtain ⟨m1, hm1, h⟩ := jpu_some h
  refine J.putI hG d_M_desk_2 fl_M_132 fp_10_0 ck_109_0 hm1 ?_
  refine J.iload_n 1 d_M_desk_5 rfl rfl ?_
  obtain ⟨x2, m3, zm3, h⟩ := jbd_some h
  refine J.cSi Y_M_isWriter (As := [.int v1]) (rest := []) d_M_desk_6 mi_M_isWriter ms_M_isWriter lk_M_280 ⟨rfl, rfl, Nat.le_of_ble_eq_true rfl⟩ (c_M_isWriter hG zm3) rfl (Nat.le_trans jcN (Nat.le_of_ble_eq_true rfl)) ?_
  refine J.if_eq 26 d_M_desk_9 rfl (fun c => ?_) (fun c => ?_)
  · rw [if_pos c] at h
    refine J.iconst (v := (-1 : Int32)) d_M_desk_26 ki_m1 ?_
    refine J.goto 41 d_M_desk_27 rfl ?_
    cases h
    exact J.iret d_M_desk_41 rfl (vp_nar_int _) rfl
  · rw [if_neg c] at h
    refine J.iload_n 2 d_M_desk_12 rfl rfl ?_
    refine J.if_lt 26 d_M_desk_13 rfl (fun c => ?_) (fun c => ?_)
    · rw [if_pos c] at h
      refine J.iconst (v := (-1 : Int32)) d_M_desk_26 ki_m1 ?_
      refine J.goto 41 d_M_desk_27 rfl ?_
      cases h
      exact J.iret d_M_desk_41 rfl (vp_nar_int _) rfl
    · rw [if_neg c] at h
      refine J.nop (pc' := 16) rfl ?_
      refine J.iload_n 2 d_M_desk_16 rfl rfl ?_
      refine J.aload_n 0 d_M_desk_17 rfl rfl ?_
      refine J.getF (n := 138) hG d_M_desk_18 fl_M_99 ck_109_56 rfl ?_
      refine J.iload_n 1 d_M_desk_21 rfl rfl ?_
      obtain ⟨x4, ex4, g, h⟩ := jld_some h
      refine J.il hG d_M_desk_22 g ex4 ?_
      refine J.icmp_lt 30 d_M_desk_23 rfl (fun c => ?_) (fun c => ?_)
      · rw [if_pos c] at h
        refine J.aload_n 0 d_M_desk_30 rfl rfl ?_
        refine J.getF (n := 137) hG d_M_desk_31 fl_M_96 ck_109_55 rfl ?_
        refine J.bipush (v := (30 : Int32)) d_M_desk_34 kb_30 ?_
        refine J.iload_n 1 d_M_desk_36 rfl rfl ?_
        refine J.imul d_M_desk_37 ?_
        refine J.iload_n 2 d_M_desk_38 rfl rfl ?_
        refine J.iadd d_M_desk_39 ?_
        obtain ⟨x5, ex5, g, h⟩ := jld_some h
        refine J.il hG d_M_desk_40 g ex5 ?_
        refine J.nop (pc' := 41) rfl ?_
        cases h
        exact J.iret d_M_desk_41 rfl (vp_nar_int _) rfl
      · rw [if_neg c] at h
        refine J.iconst (v := (-1 : Int32)) d_M_desk_26 ki_m1 ?_
        refine J.goto 41 d_M_desk_27 rfl ?_
        cases h
        exact J.iret d_M_desk_41 rfl (vp_nar_int _) rfl

def f_M_before (v1 : Int32) (v2 : Int32) (m : jMem) : Option (Int32 × jMem) :=
  jpu m 109 0 (0 : Int32) fun m1 =>
  jbd (f_M_isLetter v1 m1) fun x2 m3 =>
  if x2 = 0 then
    some ((-1 : Int32), m3)
  else
    jbd (f_M_isLetter v2 m3) fun x4 m5 =>
    if x4 = 0 then
      some ((-1 : Int32), m5)
    else
      if v1 = v2 then
        some ((-1 : Int32), m5)
      else
        jbd (f_M_isBefore v1 v2 m5) fun x6 m7 =>
        if x6 = 0 then
          jbd (f_M_isBefore v2 v1 m7) fun x8 m9 =>
          if x8 = 0 then
            some ((0 : Int32), m9)
          else
            some ((2 : Int32), m9)
        else
          some ((1 : Int32), m7)
theorem c_M_before {G : jG} (hG : jFul G) {v1 : Int32} {v2 : Int32} {m : jMem} {r : (Int32 × jMem)} (h : f_M_before v1 v2 m = some r) : jCt G Y_M_before [jr G 109, .int v1, .int v2] m (jri r) := by
  refine jCt.ov (ls := [(0, jr G 109), (1, .int v1), (2, .int v2)]) mi_M_before (jAvR (jAvI (jAvI jAvN))) (Nat.le_of_ble_eq_true rfl) ?_ ⟨rfl, rfl⟩
  unfold f_M_before at h
  refine J.aload_n 0 d_M_before_0 rfl rfl ?_
  refine J.iconst (v := (0 : Int32)) d_M_before_1 ki_0 ?_
  obtain ⟨m1, hm1, h⟩ := jpu_some h
  refine J.putI hG d_M_before_2 fl_M_132 fp_10_0 ck_109_0 hm1 ?_
  refine J.aload_n 0 d_M_before_5 rfl rfl ?_
  refine J.iload_n 1 d_M_before_6 rfl rfl ?_
  obtain ⟨x2, m3, zm3, h⟩ := jbd_some h
  refine J.cVi Y_M_isLetter (As := [.int v1]) (rest := []) hG d_M_before_7 mi_M_isLetter mv_M_isLetter lk_M_309 ⟨rfl, rfl, Nat.le_of_ble_eq_true rfl⟩ cq_109 cc_10 (c_M_isLetter hG zm3) rfl (Nat.le_trans jcN (Nat.le_of_ble_eq_true rfl)) ?_
  refine J.if_eq 26 d_M_before_10 rfl (fun c => ?_) (fun c => ?_)
  · rw [if_pos c] at h
    refine J.iconst (v := (-1 : Int32)) d_M_before_26 ki_m1 ?_
    cases h
    exact J.iret d_M_before_27 rfl (vp_nar_int _) rfl
  · rw [if_neg c] at h
    refine J.aload_n 0 d_M_before_13 rfl rfl ?_
    refine J.nop (pc' := 14) rfl ?_
    refine J.iload_n 2 d_M_before_14 rfl rfl ?_
    obtain ⟨x4, m5, zm5, h⟩ := jbd_some h
    refine J.cVi Y_M_isLetter (As := [.int v2]) (rest := []) hG d_M_before_15 mi_M_isLetter mv_M_isLetter lk_M_309 ⟨rfl, rfl, Nat.le_of_ble_eq_true rfl⟩ cq_109 cc_10 (c_M_isLetter hG zm5) rfl (Nat.le_trans jcN (Nat.le_of_ble_eq_true rfl)) ?_
    refine J.if_eq 26 d_M_before_18 rfl (fun c => ?_) (fun c => ?_)
    · rw [if_pos c] at h
      refine J.iconst (v := (-1 : Int32)) d_M_before_26 ki_m1 ?_
      cases h
      exact J.iret d_M_before_27 rfl (vp_nar_int _) rfl
    · rw [if_neg c] at h
      refine J.iload_n 1 d_M_before_21 rfl rfl ?_
      refine J.iload_n 2 d_M_before_22 rfl rfl ?_
      refine J.icmp_ne 28 d_M_before_23 rfl (fun c => ?_) (fun c => ?_)
      · rw [if_neg c] at h
        refine J.aload_n 0 d_M_before_28 rfl rfl ?_
        refine J.iload_n 1 d_M_before_29 rfl rfl ?_
        refine J.iload_n 2 d_M_before_30 rfl rfl ?_
        obtain ⟨x6, m7, zm7, h⟩ := jbd_some h
        refine J.cVi Y_M_isBefore (As := [.int v1, .int v2]) (rest := []) hG d_M_before_31 mi_M_isBefore mv_M_isBefore lk_M_350 ⟨rfl, rfl, Nat.le_of_ble_eq_true rfl⟩ cq_109 cc_10 (c_M_isBefore hG zm7) rfl (Nat.le_trans jcN (Nat.le_of_ble_eq_true rfl)) ?_
        refine J.if_eq 41 d_M_before_34 rfl (fun c => ?_) (fun c => ?_)
        · rw [if_pos c] at h
          refine J.aload_n 0 d_M_before_41 rfl rfl ?_
          refine J.iload_n 2 d_M_before_42 rfl rfl ?_
          refine J.iload_n 1 d_M_before_43 rfl rfl ?_
          obtain ⟨x8, m9, zm9, h⟩ := jbd_some h
          refine J.cVi Y_M_isBefore (As := [.int v2, .int v1]) (rest := []) hG d_M_before_44 mi_M_isBefore mv_M_isBefore lk_M_350 ⟨rfl, rfl, Nat.le_of_ble_eq_true rfl⟩ cq_109 cc_10 (c_M_isBefore hG zm9) rfl (Nat.le_trans jcN (Nat.le_of_ble_eq_true rfl)) ?_
          refine J.if_eq 54 d_M_before_47 rfl (fun c => ?_) (fun c => ?_)
          · rw [if_pos c] at h
            refine J.iconst (v := (0 : Int32)) d_M_before_54 ki_0 ?_
            cases h
            exact J.iret d_M_before_55 rfl (vp_nar_int _) rfl
          · rw [if_neg c] at h
            refine J.iconst (v := (2 : Int32)) d_M_before_50 ki_2 ?_
            refine J.goto 55 d_M_before_51 rfl ?_
            cases h
            exact J.iret d_M_before_55 rfl (vp_nar_int _) rfl
        · rw [if_neg c] at h
          refine J.iconst (v := (1 : Int32)) d_M_before_37 ki_1 ?_
          refine J.goto 55 d_M_before_38 rfl ?_
          cases h
          exact J.iret d_M_before_55 rfl (vp_nar_int _) rfl
      · rw [if_pos c] at h
        refine J.iconst (v := (-1 : Int32)) d_M_before_26 ki_m1 ?_
        cases h
        exact J.iret d_M_before_27 rfl (vp_nar_int _) rfl

def lp_M_path_74 (v1 : Int32) (v2 : Int32) (v3 : Int32) (v4 : Int32) (k128 : jMem → Option (Int32 × jMem)) : Nat → Int32 → jMem → Option (Int32 × jMem)
  | 0, _, _ => none
  | n + 1, v5, m =>
    if v2 < v5 then
      k128 m
    else
      jld 1 m 127 v5 fun x10 =>
      if ((x10 >>> (v4 &&& 31)) &&& (1 : Int32)) = (1 : Int32) then
        jld 1 m 139 v4 fun x11 =>
        jld 1 m 139 v5 fun x12 =>
        jst 1 m 139 v4 (jmin x11 (x12 + (1 : Int32))) fun m13 =>
        lp_M_path_74 v1 v2 v3 v4 k128 n (v5 + (1 : Int32)) m13
      else
        lp_M_path_74 v1 v2 v3 v4 k128 n (v5 + (1 : Int32)) m
def lp_M_path_53 (v1 : Int32) (v2 : Int32) (v3 : Int32) (k134 : jMem → Option (Int32 × jMem)) : Nat → Int32 → jMem → Option (Int32 × jMem)
  | 0, _, _ => none
  | n + 1, v4, m =>
    if v4 < v1 then
      k134 m
    else
      jst 1 m 139 v4 (99 : Int32) fun m9 =>
      lp_M_path_74 v1 v2 v3 v4 (fun m14 =>
        lp_M_path_53 v1 v2 v3 k134 n (v4 + (-1 : Int32)) m14) 5000 (v4 + (1 : Int32)) m9
def lp_M_path_160 (v2 : Int32) (v3 : Int32) (v4 : Int32) (v5 : Int32) (k200 : Int32 → jMem → Option (Int32 × jMem)) : Nat → Int32 → jMem → Option (Int32 × jMem)
  | 0, _, _ => none
  | n + 1, v6, m =>
    jld 1 m 127 v6 fun x16 =>
    if ((x16 >>> (v4 &&& 31)) &&& (1 : Int32)) = 0 then
      lp_M_path_160 v2 v3 v4 v5 k200 n (v6 + (1 : Int32)) m
    else
      jld 1 m 139 v6 fun x17 =>
      jld 1 m 139 v4 fun x18 =>
      if x17 = (x18 - (1 : Int32)) then
        k200 v6 m
      else
        lp_M_path_160 v2 v3 v4 v5 k200 n (v6 + (1 : Int32)) m
def lp_M_path_140 (v2 : Int32) (v3 : Int32) (k152 : jMem → Option (Int32 × jMem)) (k210 : Int32 → jMem → Option (Int32 × jMem)) : Nat → Int32 → Int32 → jMem → Option (Int32 × jMem)
  | 0, _, _, _ => none
  | n + 1, v4, v5, m =>
    if v3 ≤ v5 then
      k210 v4 m
    else
      if v4 = v2 then
        k152 m
      else
        lp_M_path_160 v2 v3 v4 v5 (fun w20 m19 =>
          lp_M_path_140 v2 v3 k152 k210 n w20 (v5 + (1 : Int32)) m19) 5000 (v4 + (1 : Int32)) m
def f_M_path (v1 : Int32) (v2 : Int32) (v3 : Int32) (m : jMem) : Option (Int32 × jMem) :=
  jpu m 109 0 (0 : Int32) fun m1 =>
  jbd (f_M_isLetter v1 m1) fun x2 m3 =>
  if x2 = 0 then
    some ((-1 : Int32), m3)
  else
    jbd (f_M_isLetter v2 m3) fun x4 m5 =>
    if x4 = 0 then
      some ((-1 : Int32), m5)
    else
      if v1 = v2 then
        some ((-1 : Int32), m5)
      else
        jbd (f_M_isBefore v1 v2 m5) fun x6 m7 =>
        if x6 = 0 then
          some ((-1 : Int32), m7)
        else
          if 0 ≤ v3 then
            jst 1 m7 139 v2 (0 : Int32) fun m8 =>
            lp_M_path_53 v1 v2 v3 (fun m15 =>
              lp_M_path_140 v2 v3 (fun m21 =>
                some ((-1 : Int32), m21)) (fun w23 m22 =>
                some (w23, m22)) 5000 v1 (0 : Int32) m15) 5000 (v2 - (1 : Int32)) m8
          else
            some ((-1 : Int32), m7)
theorem jlp_M_path_74 {G : jG} (hG : jFul G) (v1 : Int32) (v2 : Int32) (v3 : Int32) (v4 : Int32) (k128 : jMem → Option (Int32 × jMem))
    (hk128 : ∀ (m : jMem) (r : (Int32 × jMem)), k128 m = some r → J G Y_M_path 128 [(0, jr G 109), (1, .int v1), (2, .int v2), (3, .int v3), (4, .int v4)] [] m (jri r)) : ∀ (n : Nat) (v5 : Int32) (m : jMem) (r : (Int32 × jMem)), lp_M_path_74 v1 v2 v3 v4 k128 n v5 m = some r → J G Y_M_path 74 [(0, jr G 109), (1, .int v1), (2, .int v2), (3, .int v3), (4, .int v4), (5, .int v5)] [] m (jri r) := by
  intro n
  induction n with
  | zero => intro v5 m r h; unfold lp_M_path_74 at h; cases h
  | succ n ih =>
    intro v5 m r h
    unfold lp_M_path_74 at h
    refine J.iload 5 d_M_path_74 rfl ?_
    refine J.iload_n 2 d_M_path_76 rfl rfl ?_
    refine J.icmp_gt 128 d_M_path_77 rfl (fun c => ?_) (fun c => ?_)
    · rw [if_pos c] at h
      exact J.sub (ls' := [(0, jr G 109), (1, .int v1), (2, .int v2), (3, .int v3), (4, .int v4)]) [0, 1, 2, 3, 4] rfl (hk128  m _ h)
    · rw [if_neg c] at h
      refine J.aload_n 0 d_M_path_80 rfl rfl ?_
      refine J.getF (n := 127) hG d_M_path_81 fl_M_66 ck_109_40 rfl ?_
      refine J.iload 5 d_M_path_84 rfl ?_
      obtain ⟨x10, ex10, g, h⟩ := jld_some h
      refine J.il hG d_M_path_86 g ex10 ?_
      refine J.iload 4 d_M_path_87 rfl ?_
      refine J.nop (pc' := 89) rfl ?_
      refine J.ishr d_M_path_89 ?_
      refine J.iconst (v := (1 : Int32)) d_M_path_90 ki_1 ?_
      refine J.iand d_M_path_91 ?_
      refine J.iconst (v := (1 : Int32)) d_M_path_92 ki_1 ?_
      refine J.icmp_ne 122 d_M_path_93 rfl (fun c => ?_) (fun c => ?_)
      · rw [if_neg c] at h
        refine J.iinc 5 (v := (1 : Int32)) (lv := [(5, .int (v5 + (1 : Int32))), (0, jr G 109), (1, .int v1), (2, .int v2), (3, .int v3), (4, .int v4)]) d_M_path_122 rfl ki_1 (by decide) rfl ?_
        refine J.goto 74 d_M_path_125 rfl ?_
        exact J.sub (ls' := [(0, jr G 109), (1, .int v1), (2, .int v2), (3, .int v3), (4, .int v4), (5, .int (v5 + (1 : Int32)))]) [1, 2, 3, 4, 5, 0] rfl (ih (v5 + (1 : Int32)) m _ h)
      · rw [if_pos c] at h
        refine J.aload_n 0 d_M_path_96 rfl rfl ?_
        refine J.getF (n := 139) hG d_M_path_97 fl_M_102 ck_109_58 rfl ?_
        refine J.iload 4 d_M_path_100 rfl ?_
        refine J.nop (pc' := 102) rfl ?_
        refine J.aload_n 0 d_M_path_102 rfl rfl ?_
        refine J.getF (n := 139) hG d_M_path_103 fl_M_102 ck_109_58 rfl ?_
        refine J.iload 4 d_M_path_106 rfl ?_
        obtain ⟨x11, ex11, g, h⟩ := jld_some h
        refine J.il hG d_M_path_108 g ex11 ?_
        refine J.aload_n 0 d_M_path_109 rfl rfl ?_
        refine J.getF (n := 139) hG d_M_path_110 fl_M_102 ck_109_58 rfl ?_
        refine J.iload 5 d_M_path_113 rfl ?_
        obtain ⟨x12, ex12, g, h⟩ := jld_some h
        refine J.il hG d_M_path_115 g ex12 ?_
        refine J.nop (pc' := 116) rfl ?_
        refine J.iconst (v := (1 : Int32)) d_M_path_116 ki_1 ?_
        refine J.iadd d_M_path_117 ?_
        refine J.mn d_M_path_118 (jt_8 23 rfl rfl) (jt_2 223 rfl rfl) (jt_1 14 rfl rfl) (jt_2 224 rfl rfl) (Nat.le_trans (jcI (jcR jcN)) (Nat.le_of_ble_eq_true rfl)) ?_
        obtain ⟨m13, hm13, g, h⟩ := jst_some h
        refine J.is hG d_M_path_121 g hm13 ?_
        refine J.iinc 5 (v := (1 : Int32)) (lv := [(5, .int (v5 + (1 : Int32))), (0, jr G 109), (1, .int v1), (2, .int v2), (3, .int v3), (4, .int v4)]) d_M_path_122 rfl ki_1 (by decide) rfl ?_
        refine J.goto 74 d_M_path_125 rfl ?_
        exact J.sub (ls' := [(0, jr G 109), (1, .int v1), (2, .int v2), (3, .int v3), (4, .int v4), (5, .int (v5 + (1 : Int32)))]) [1, 2, 3, 4, 5, 0] rfl (ih (v5 + (1 : Int32)) m13 _ h)
theorem jlp_M_path_53 {G : jG} (hG : jFul G) (v1 : Int32) (v2 : Int32) (v3 : Int32) (k134 : jMem → Option (Int32 × jMem))
    (hk134 : ∀ (m : jMem) (r : (Int32 × jMem)), k134 m = some r → J G Y_M_path 134 [(0, jr G 109), (1, .int v1), (2, .int v2), (3, .int v3)] [] m (jri r)) : ∀ (n : Nat) (v4 : Int32) (m : jMem) (r : (Int32 × jMem)), lp_M_path_53 v1 v2 v3 k134 n v4 m = some r → J G Y_M_path 53 [(0, jr G 109), (1, .int v1), (2, .int v2), (3, .int v3), (4, .int v4)] [] m (jri r) := by
  intro n
  induction n with
  | zero => intro v4 m r h; unfold lp_M_path_53 at h; cases h
  | succ n ih =>
    intro v4 m r h
    unfold lp_M_path_53 at h
    refine J.iload 4 d_M_path_53 rfl ?_
    refine J.iload_n 1 d_M_path_55 rfl rfl ?_
    refine J.icmp_lt 134 d_M_path_56 rfl (fun c => ?_) (fun c => ?_)
    · rw [if_pos c] at h
      exact J.sub (ls' := [(0, jr G 109), (1, .int v1), (2, .int v2), (3, .int v3)]) [0, 1, 2, 3] rfl (hk134  m _ h)
    · rw [if_neg c] at h
      refine J.aload_n 0 d_M_path_59 rfl rfl ?_
      refine J.getF (n := 139) hG d_M_path_60 fl_M_102 ck_109_58 rfl ?_
      refine J.iload 4 d_M_path_63 rfl ?_
      refine J.bipush (v := (99 : Int32)) d_M_path_65 kb_99 ?_
      obtain ⟨m9, hm9, g, h⟩ := jst_some h
      refine J.is hG d_M_path_67 g hm9 ?_
      refine J.nop (pc' := 68) rfl ?_
      refine J.iload 4 d_M_path_68 rfl ?_
      refine J.iconst (v := (1 : Int32)) d_M_path_70 ki_1 ?_
      refine J.iadd d_M_path_71 ?_
      refine J.istore (lv := [(5, .int (v4 + (1 : Int32))), (0, jr G 109), (1, .int v1), (2, .int v2), (3, .int v3), (4, .int v4)]) d_M_path_72 (by decide) rfl ?_
      refine J.sub (ls' := [(0, jr G 109), (1, .int v1), (2, .int v2), (3, .int v3), (4, .int v4), (5, .int (v4 + (1 : Int32)))]) [1, 2, 3, 4, 5, 0] rfl ?_
      refine jlp_M_path_74 hG v1 v2 v3 v4 _ ?_ _ (v4 + (1 : Int32)) m9 _ h
      intro m14 r h
      refine J.iinc 4 (v := (-1 : Int32)) (lv := [(4, .int (v4 + (-1 : Int32))), (0, jr G 109), (1, .int v1), (2, .int v2), (3, .int v3)]) d_M_path_128 rfl ki_m1 (by decide) rfl ?_
      refine J.goto 53 d_M_path_131 rfl ?_
      exact J.sub (ls' := [(0, jr G 109), (1, .int v1), (2, .int v2), (3, .int v3), (4, .int (v4 + (-1 : Int32)))]) [1, 2, 3, 4, 0] rfl (ih (v4 + (-1 : Int32)) m14 _ h)
theorem jlp_M_path_160 {G : jG} (hG : jFul G) (v2 : Int32) (v3 : Int32) (v4 : Int32) (v5 : Int32) (k200 : Int32 → jMem → Option (Int32 × jMem))
    (hk200 : ∀ (v6 : Int32) (m : jMem) (r : (Int32 × jMem)), k200 v6 m = some r → J G Y_M_path 200 [(0, jr G 109), (2, .int v2), (3, .int v3), (5, .int v5), (6, .int v6)] [] m (jri r)) : ∀ (n : Nat) (v6 : Int32) (m : jMem) (r : (Int32 × jMem)), lp_M_path_160 v2 v3 v4 v5 k200 n v6 m = some r → J G Y_M_path 160 [(0, jr G 109), (2, .int v2), (3, .int v3), (4, .int v4), (5, .int v5), (6, .int v6)] [] m (jri r) := by
  intro n
  induction n with
  | zero => intro v6 m r h; unfold lp_M_path_160 at h; cases h
  | succ n ih =>
    intro v6 m r h
    unfold lp_M_path_160 at h
    refine J.aload_n 0 d_M_path_160 rfl rfl ?_
    refine J.getF (n := 127) hG d_M_path_161 fl_M_66 ck_109_40 rfl ?_
    refine J.iload 5 d_M_path_164 rfl ?_
    obtain ⟨x16, ex16, g, h⟩ := jld_some h
    refine J.il hG d_M_path_166 g ex16 ?_
    refine J.iload 3 d_M_path_167 rfl ?_
    refine J.ishr d_M_path_169 ?_
    refine J.iconst (v := (1 : Int32)) d_M_path_170 ki_1 ?_
    refine J.iand d_M_path_171 ?_
    refine J.nop (pc' := 172) rfl ?_
    refine J.if_eq 194 d_M_path_172 rfl (fun c => ?_) (fun c => ?_)
    · rw [if_pos c] at h
      refine J.iinc 5 (v := (1 : Int32)) (lv := [(6, .int (v6 + (1 : Int32))), (0, jr G 109), (2, .int v2), (3, .int v3), (4, .int v4), (5, .int v5)]) d_M_path_194 rfl ki_1 (by decide) rfl ?_
      refine J.goto 160 d_M_path_197 rfl ?_
      exact J.sub (ls' := [(0, jr G 109), (2, .int v2), (3, .int v3), (4, .int v4), (5, .int v5), (6, .int (v6 + (1 : Int32)))]) [1, 2, 3, 4, 5, 0] rfl (ih (v6 + (1 : Int32)) m _ h)
    · rw [if_neg c] at h
      refine J.aload_n 0 d_M_path_175 rfl rfl ?_
      refine J.getF (n := 139) hG d_M_path_176 fl_M_102 ck_109_58 rfl ?_
      refine J.iload 5 d_M_path_179 rfl ?_
      obtain ⟨x17, ex17, g, h⟩ := jld_some h
      refine J.il hG d_M_path_181 g ex17 ?_
      refine J.aload_n 0 d_M_path_182 rfl rfl ?_
      refine J.getF (n := 139) hG d_M_path_183 fl_M_102 ck_109_58 rfl ?_
      refine J.iload 3 d_M_path_186 rfl ?_
      refine J.nop (pc' := 188) rfl ?_
      obtain ⟨x18, ex18, g, h⟩ := jld_some h
      refine J.il hG d_M_path_188 g ex18 ?_
      refine J.iconst (v := (1 : Int32)) d_M_path_189 ki_1 ?_
      refine J.isub d_M_path_190 ?_
      refine J.icmp_eq 200 d_M_path_191 rfl (fun c => ?_) (fun c => ?_)
      · rw [if_pos c] at h
        exact J.sub (ls' := [(0, jr G 109), (2, .int v2), (3, .int v3), (5, .int v5), (6, .int v6)]) [0, 1, 2, 4, 5] rfl (hk200 v6 m _ h)
      · rw [if_neg c] at h
        refine J.iinc 5 (v := (1 : Int32)) (lv := [(6, .int (v6 + (1 : Int32))), (0, jr G 109), (2, .int v2), (3, .int v3), (4, .int v4), (5, .int v5)]) d_M_path_194 rfl ki_1 (by decide) rfl ?_
        refine J.goto 160 d_M_path_197 rfl ?_
        exact J.sub (ls' := [(0, jr G 109), (2, .int v2), (3, .int v3), (4, .int v4), (5, .int v5), (6, .int (v6 + (1 : Int32)))]) [1, 2, 3, 4, 5, 0] rfl (ih (v6 + (1 : Int32)) m _ h)
theorem jlp_M_path_140 {G : jG} (hG : jFul G) (v2 : Int32) (v3 : Int32) (k152 : jMem → Option (Int32 × jMem)) (k210 : Int32 → jMem → Option (Int32 × jMem))
    (hk152 : ∀ (m : jMem) (r : (Int32 × jMem)), k152 m = some r → J G Y_M_path 152 [] [] m (jri r))
    (hk210 : ∀ (v4 : Int32) (m : jMem) (r : (Int32 × jMem)), k210 v4 m = some r → J G Y_M_path 210 [(4, .int v4)] [] m (jri r)) : ∀ (n : Nat) (v4 : Int32) (v5 : Int32) (m : jMem) (r : (Int32 × jMem)), lp_M_path_140 v2 v3 k152 k210 n v4 v5 m = some r → J G Y_M_path 140 [(0, jr G 109), (2, .int v2), (3, .int v3), (4, .int v4), (5, .int v5)] [] m (jri r) := by
  intro n
  induction n with
  | zero => intro v4 v5 m r h; unfold lp_M_path_140 at h; cases h
  | succ n ih =>
    intro v4 v5 m r h
    unfold lp_M_path_140 at h
    refine J.iload 4 d_M_path_140 rfl ?_
    refine J.iload_n 2 d_M_path_142 rfl rfl ?_
    refine J.icmp_ge 210 d_M_path_143 rfl (fun c => ?_) (fun c => ?_)
    · rw [if_pos c] at h
      exact J.sub (ls' := [(4, .int v4)]) [3] rfl (hk210 v4 m _ h)
    · rw [if_neg c] at h
      refine J.iload 3 d_M_path_146 rfl ?_
      refine J.iload_n 1 d_M_path_148 rfl rfl ?_
      refine J.icmp_ne 154 d_M_path_149 rfl (fun c => ?_) (fun c => ?_)
      · rw [if_neg c] at h
        refine J.iload 3 d_M_path_154 rfl ?_
        refine J.iconst (v := (1 : Int32)) d_M_path_156 ki_1 ?_
        refine J.iadd d_M_path_157 ?_
        refine J.istore (lv := [(6, .int (v4 + (1 : Int32))), (0, jr G 109), (2, .int v2), (3, .int v3), (4, .int v4), (5, .int v5)]) d_M_path_158 (by decide) rfl ?_
        refine J.sub (ls' := [(0, jr G 109), (2, .int v2), (3, .int v3), (4, .int v4), (5, .int v5), (6, .int (v4 + (1 : Int32)))]) [1, 2, 3, 4, 5, 0] rfl ?_
        refine jlp_M_path_160 hG v2 v3 v4 v5 _ ?_ _ (v4 + (1 : Int32)) m _ h
        intro w20 m19 r h
        refine J.iload 4 d_M_path_200 rfl ?_
        refine J.istore (lv := [(4, .int w20), (0, jr G 109), (2, .int v2), (3, .int v3), (5, .int v5), (6, .int w20)]) d_M_path_202 (by decide) rfl ?_
        refine J.iinc 4 (v := (1 : Int32)) (lv := [(5, .int (v5 + (1 : Int32))), (4, .int w20), (0, jr G 109), (2, .int v2), (3, .int v3), (6, .int w20)]) d_M_path_204 rfl ki_1 (by decide) rfl ?_
        refine J.goto 140 d_M_path_207 rfl ?_
        exact J.sub (ls' := [(0, jr G 109), (2, .int v2), (3, .int v3), (4, .int w20), (5, .int (v5 + (1 : Int32)))]) [2, 3, 4, 1, 0] rfl (ih w20 (v5 + (1 : Int32)) m19 _ h)
      · rw [if_pos c] at h
        exact J.sub (ls' := []) [] rfl (hk152  m _ h)
theorem c_M_path {G : jG} (hG : jFul G) {v1 : Int32} {v2 : Int32} {v3 : Int32} {m : jMem} {r : (Int32 × jMem)} (h : f_M_path v1 v2 v3 m = some r) : jCt G Y_M_path [jr G 109, .int v1, .int v2, .int v3] m (jri r) := by
  refine jCt.ov (ls := [(0, jr G 109), (1, .int v1), (2, .int v2), (3, .int v3)]) mi_M_path (jAvR (jAvI (jAvI (jAvI jAvN)))) (Nat.le_of_ble_eq_true rfl) ?_ ⟨rfl, rfl⟩
  unfold f_M_path at h
  refine J.aload_n 0 d_M_path_0 rfl rfl ?_
  refine J.iconst (v := (0 : Int32)) d_M_path_1 ki_0 ?_
  obtain ⟨m1, hm1, h⟩ := jpu_some h
  refine J.putI hG d_M_path_2 fl_M_132 fp_10_0 ck_109_0 hm1 ?_
  refine J.aload_n 0 d_M_path_5 rfl rfl ?_
  refine J.iload_n 1 d_M_path_6 rfl rfl ?_
  obtain ⟨x2, m3, zm3, h⟩ := jbd_some h
  refine J.cVi Y_M_isLetter (As := [.int v1]) (rest := []) hG d_M_path_7 mi_M_isLetter mv_M_isLetter lk_M_309 ⟨rfl, rfl, Nat.le_of_ble_eq_true rfl⟩ cq_109 cc_10 (c_M_isLetter hG zm3) rfl (Nat.le_trans jcN (Nat.le_of_ble_eq_true rfl)) ?_
  refine J.if_eq 39 d_M_path_10 rfl (fun c => ?_) (fun c => ?_)
  · rw [if_pos c] at h
    refine J.iconst (v := (-1 : Int32)) d_M_path_39 ki_m1 ?_
    cases h
    exact J.iret d_M_path_40 rfl (vp_nar_int _) rfl
  · rw [if_neg c] at h
    refine J.aload_n 0 d_M_path_13 rfl rfl ?_
    refine J.nop (pc' := 14) rfl ?_
    refine J.iload_n 2 d_M_path_14 rfl rfl ?_
    obtain ⟨x4, m5, zm5, h⟩ := jbd_some h
    refine J.cVi Y_M_isLetter (As := [.int v2]) (rest := []) hG d_M_path_15 mi_M_isLetter mv_M_isLetter lk_M_309 ⟨rfl, rfl, Nat.le_of_ble_eq_true rfl⟩ cq_109 cc_10 (c_M_isLetter hG zm5) rfl (Nat.le_trans jcN (Nat.le_of_ble_eq_true rfl)) ?_
    refine J.if_eq 39 d_M_path_18 rfl (fun c => ?_) (fun c => ?_)
    · rw [if_pos c] at h
      refine J.iconst (v := (-1 : Int32)) d_M_path_39 ki_m1 ?_
      cases h
      exact J.iret d_M_path_40 rfl (vp_nar_int _) rfl
    · rw [if_neg c] at h
      refine J.iload_n 1 d_M_path_21 rfl rfl ?_
      refine J.iload_n 2 d_M_path_22 rfl rfl ?_
      refine J.icmp_eq 39 d_M_path_23 rfl (fun c => ?_) (fun c => ?_)
      · rw [if_pos c] at h
        refine J.iconst (v := (-1 : Int32)) d_M_path_39 ki_m1 ?_
        cases h
        exact J.iret d_M_path_40 rfl (vp_nar_int _) rfl
      · rw [if_neg c] at h
        refine J.aload_n 0 d_M_path_26 rfl rfl ?_
        refine J.iload_n 1 d_M_path_27 rfl rfl ?_
        refine J.nop (pc' := 28) rfl ?_
        refine J.iload_n 2 d_M_path_28 rfl rfl ?_
        obtain ⟨x6, m7, zm7, h⟩ := jbd_some h
        refine J.cVi Y_M_isBefore (As := [.int v1, .int v2]) (rest := []) hG d_M_path_29 mi_M_isBefore mv_M_isBefore lk_M_350 ⟨rfl, rfl, Nat.le_of_ble_eq_true rfl⟩ cq_109 cc_10 (c_M_isBefore hG zm7) rfl (Nat.le_trans jcN (Nat.le_of_ble_eq_true rfl)) ?_
        refine J.if_eq 39 d_M_path_32 rfl (fun c => ?_) (fun c => ?_)
        · rw [if_pos c] at h
          refine J.iconst (v := (-1 : Int32)) d_M_path_39 ki_m1 ?_
          cases h
          exact J.iret d_M_path_40 rfl (vp_nar_int _) rfl
        · rw [if_neg c] at h
          refine J.iload_n 3 d_M_path_35 rfl rfl ?_
          refine J.if_ge 41 d_M_path_36 rfl (fun c => ?_) (fun c => ?_)
          · rw [if_pos c] at h
            refine J.aload_n 0 d_M_path_41 rfl rfl ?_
            refine J.getF (n := 139) hG d_M_path_42 fl_M_102 ck_109_58 rfl ?_
            refine J.iload_n 2 d_M_path_45 rfl rfl ?_
            refine J.iconst (v := (0 : Int32)) d_M_path_46 ki_0 ?_
            obtain ⟨m8, hm8, g, h⟩ := jst_some h
            refine J.is hG d_M_path_47 g hm8 ?_
            refine J.iload_n 2 d_M_path_48 rfl rfl ?_
            refine J.iconst (v := (1 : Int32)) d_M_path_49 ki_1 ?_
            refine J.isub d_M_path_50 ?_
            refine J.nop (pc' := 51) rfl ?_
            refine J.istore (lv := [(4, .int (v2 - (1 : Int32))), (0, jr G 109), (1, .int v1), (2, .int v2), (3, .int v3)]) d_M_path_51 (by decide) rfl ?_
            refine J.sub (ls' := [(0, jr G 109), (1, .int v1), (2, .int v2), (3, .int v3), (4, .int (v2 - (1 : Int32)))]) [1, 2, 3, 4, 0] rfl ?_
            refine jlp_M_path_53 hG v1 v2 v3 _ ?_ _ (v2 - (1 : Int32)) m8 _ h
            intro m15 r h
            refine J.iload_n 1 d_M_path_134 rfl rfl ?_
            refine J.istore (lv := [(4, .int v1), (0, jr G 109), (1, .int v1), (2, .int v2), (3, .int v3)]) d_M_path_135 (by decide) rfl ?_
            refine J.iconst (v := (0 : Int32)) d_M_path_137 ki_0 ?_
            refine J.istore (lv := [(5, .int (0 : Int32)), (4, .int v1), (0, jr G 109), (1, .int v1), (2, .int v2), (3, .int v3)]) d_M_path_138 (by decide) rfl ?_
            refine J.sub (ls' := [(0, jr G 109), (2, .int v2), (3, .int v3), (4, .int v1), (5, .int (0 : Int32))]) [2, 4, 5, 1, 0] rfl ?_
            refine jlp_M_path_140 hG v2 v3 _ _ ?_ ?_ _ v1 (0 : Int32) m15 _ h
            · intro m21 r h
              refine J.iconst (v := (-1 : Int32)) d_M_path_152 ki_m1 ?_
              cases h
              exact J.iret d_M_path_153 rfl (vp_nar_int _) rfl
            · intro w23 m22 r h
              refine J.iload 0 d_M_path_210 rfl ?_
              cases h
              exact J.iret d_M_path_212 rfl (vp_nar_int _) rfl
          · rw [if_neg c] at h
            refine J.iconst (v := (-1 : Int32)) d_M_path_39 ki_m1 ?_
            cases h
            exact J.iret d_M_path_40 rfl (vp_nar_int _) rfl

def f_M_sum (v1 : Int32) (m : jMem) : Option (Int32 × jMem) :=
  jpu m 109 0 (0 : Int32) fun m1 =>
  jbd (f_M_isLetter v1 m1) fun x2 m3 =>
  if x2 = 0 then
    some ((-1 : Int32), m3)
  else
    jbd (f_M_sumOf v1 m3) fun x4 m5 =>
    some (x4, m5)
theorem c_M_sum {G : jG} (hG : jFul G) {v1 : Int32} {m : jMem} {r : (Int32 × jMem)} (h : f_M_sum v1 m = some r) : jCt G Y_M_sum [jr G 109, .int v1] m (jri r) := by
  refine jCt.ov (ls := [(0, jr G 109), (1, .int v1)]) mi_M_sum (jAvR (jAvI jAvN)) (Nat.le_of_ble_eq_true rfl) ?_ ⟨rfl, rfl⟩
  unfold f_M_sum at h
  refine J.aload_n 0 d_M_sum_0 rfl rfl ?_
  refine J.iconst (v := (0 : Int32)) d_M_sum_1 ki_0 ?_
  obtain ⟨m1, hm1, h⟩ := jpu_some h
  refine J.putI hG d_M_sum_2 fl_M_132 fp_10_0 ck_109_0 hm1 ?_
  refine J.aload_n 0 d_M_sum_5 rfl rfl ?_
  refine J.iload_n 1 d_M_sum_6 rfl rfl ?_
  obtain ⟨x2, m3, zm3, h⟩ := jbd_some h
  refine J.cVi Y_M_isLetter (As := [.int v1]) (rest := []) hG d_M_sum_7 mi_M_isLetter mv_M_isLetter lk_M_309 ⟨rfl, rfl, Nat.le_of_ble_eq_true rfl⟩ cq_109 cc_10 (c_M_isLetter hG zm3) rfl (Nat.le_trans jcN (Nat.le_of_ble_eq_true rfl)) ?_
  refine J.if_eq 21 d_M_sum_10 rfl (fun c => ?_) (fun c => ?_)
  · rw [if_pos c] at h
    refine J.iconst (v := (-1 : Int32)) d_M_sum_21 ki_m1 ?_
    cases h
    exact J.iret d_M_sum_22 rfl (vp_nar_int _) rfl
  · rw [if_neg c] at h
    refine J.aload_n 0 d_M_sum_13 rfl rfl ?_
    refine J.nop (pc' := 14) rfl ?_
    refine J.iload_n 1 d_M_sum_14 rfl rfl ?_
    obtain ⟨x4, m5, zm5, h⟩ := jbd_some h
    refine J.cVi Y_M_sumOf (As := [.int v1]) (rest := []) hG d_M_sum_15 mi_M_sumOf mv_M_sumOf lk_M_335 ⟨rfl, rfl, Nat.le_of_ble_eq_true rfl⟩ cq_109 cc_10 (c_M_sumOf hG zm5) rfl (Nat.le_trans jcN (Nat.le_of_ble_eq_true rfl)) ?_
    refine J.goto 22 d_M_sum_18 rfl ?_
    cases h
    exact J.iret d_M_sum_22 rfl (vp_nar_int _) rfl

def lp_M_numberOf_19 (v1 : Int32) (v2 : Int32) (k60 : Int32 → jMem → Option (Int32 × jMem)) : Nat → Int32 → Int32 → jMem → Option (Int32 × jMem)
  | 0, _, _, _ => none
  | n + 1, v3, v4, m =>
    if v1 ≤ v4 then
      k60 v3 m
    else
      jbd (f_M_isBefore v4 v1 m) fun x2 m3 =>
      if x2 = 0 then
        lp_M_numberOf_19 v1 v2 k60 n (v3 + (0 : Int32)) (v4 + (1 : Int32)) m3
      else
        jld 1 m3 121 v4 fun x4 =>
        if x4 = v2 then
          lp_M_numberOf_19 v1 v2 k60 n (v3 + (1 : Int32)) (v4 + (1 : Int32)) m3
        else
          lp_M_numberOf_19 v1 v2 k60 n (v3 + (0 : Int32)) (v4 + (1 : Int32)) m3
def f_M_numberOf (v1 : Int32) (v2 : Int32) (m : jMem) : Option (Int32 × jMem) :=
  jld 1 m 121 v1 fun x1 =>
  if x1 = v2 then
    lp_M_numberOf_19 v1 v2 (fun w8 m7 =>
      some (w8, m7)) 5000 (1 : Int32) (0 : Int32) m
  else
    lp_M_numberOf_19 v1 v2 (fun w6 m5 =>
      some (w6, m5)) 5000 (0 : Int32) (0 : Int32) m
theorem jlp_M_numberOf_19 {G : jG} (hG : jFul G) (v1 : Int32) (v2 : Int32) (k60 : Int32 → jMem → Option (Int32 × jMem))
    (hk60 : ∀ (v3 : Int32) (m : jMem) (r : (Int32 × jMem)), k60 v3 m = some r → J G Y_M_numberOf 60 [(3, .int v3)] [] m (jri r)) : ∀ (n : Nat) (v3 : Int32) (v4 : Int32) (m : jMem) (r : (Int32 × jMem)), lp_M_numberOf_19 v1 v2 k60 n v3 v4 m = some r → J G Y_M_numberOf 19 [(0, jr G 109), (1, .int v1), (2, .int v2), (3, .int v3), (4, .int v4)] [] m (jri r) := by
  intro n
  induction n with
  | zero => intro v3 v4 m r h; unfold lp_M_numberOf_19 at h; cases h
  | succ n ih =>
    intro v3 v4 m r h
    unfold lp_M_numberOf_19 at h
    refine J.iload 4 d_M_numberOf_19 rfl ?_
    refine J.iload_n 1 d_M_numberOf_21 rfl rfl ?_
    refine J.icmp_ge 60 d_M_numberOf_22 rfl (fun c => ?_) (fun c => ?_)
    · rw [if_pos c] at h
      exact J.sub (ls' := [(3, .int v3)]) [3] rfl (hk60 v3 m _ h)
    · rw [if_neg c] at h
      refine J.iload_n 3 d_M_numberOf_25 rfl rfl ?_
      refine J.aload_n 0 d_M_numberOf_26 rfl rfl ?_
      refine J.iload 4 d_M_numberOf_27 rfl ?_
      refine J.iload_n 1 d_M_numberOf_29 rfl rfl ?_
      obtain ⟨x2, m3, zm3, h⟩ := jbd_some h
      refine J.cVi Y_M_isBefore (As := [.int v4, .int v1]) (rest := [.int v3]) hG d_M_numberOf_30 mi_M_isBefore mv_M_isBefore lk_M_350 ⟨rfl, rfl, Nat.le_of_ble_eq_true rfl⟩ cq_109 cc_10 (c_M_isBefore hG zm3) rfl (Nat.le_trans (jcI jcN) (Nat.le_of_ble_eq_true rfl)) ?_
      refine J.nop (pc' := 33) rfl ?_
      refine J.if_eq 51 d_M_numberOf_33 rfl (fun c => ?_) (fun c => ?_)
      · rw [if_pos c] at h
        refine J.iconst (v := (0 : Int32)) d_M_numberOf_51 ki_0 ?_
        refine J.iadd d_M_numberOf_52 ?_
        refine J.istore_n (lv := [(3, .int (v3 + (0 : Int32))), (0, jr G 109), (1, .int v1), (2, .int v2), (4, .int v4)]) d_M_numberOf_53 rfl (by decide) rfl ?_
        refine J.iinc 4 (v := (1 : Int32)) (lv := [(4, .int (v4 + (1 : Int32))), (3, .int (v3 + (0 : Int32))), (0, jr G 109), (1, .int v1), (2, .int v2)]) d_M_numberOf_54 rfl ki_1 (by decide) rfl ?_
        refine J.goto 19 d_M_numberOf_57 rfl ?_
        exact J.sub (ls' := [(0, jr G 109), (1, .int v1), (2, .int v2), (3, .int (v3 + (0 : Int32))), (4, .int (v4 + (1 : Int32)))]) [2, 3, 4, 1, 0] rfl (ih (v3 + (0 : Int32)) (v4 + (1 : Int32)) m3 _ h)
      · rw [if_neg c] at h
        refine J.aload_n 0 d_M_numberOf_36 rfl rfl ?_
        refine J.getF (n := 121) hG d_M_numberOf_37 fl_M_48 ck_109_34 rfl ?_
        refine J.iload 4 d_M_numberOf_40 rfl ?_
        obtain ⟨x4, ex4, g, h⟩ := jld_some h
        refine J.il hG d_M_numberOf_42 g ex4 ?_
        refine J.iload_n 2 d_M_numberOf_43 rfl rfl ?_
        refine J.icmp_ne 51 d_M_numberOf_44 rfl (fun c => ?_) (fun c => ?_)
        · rw [if_neg c] at h
          refine J.iconst (v := (0 : Int32)) d_M_numberOf_51 ki_0 ?_
          refine J.iadd d_M_numberOf_52 ?_
          refine J.istore_n (lv := [(3, .int (v3 + (0 : Int32))), (0, jr G 109), (1, .int v1), (2, .int v2), (4, .int v4)]) d_M_numberOf_53 rfl (by decide) rfl ?_
          refine J.iinc 4 (v := (1 : Int32)) (lv := [(4, .int (v4 + (1 : Int32))), (3, .int (v3 + (0 : Int32))), (0, jr G 109), (1, .int v1), (2, .int v2)]) d_M_numberOf_54 rfl ki_1 (by decide) rfl ?_
          refine J.goto 19 d_M_numberOf_57 rfl ?_
          exact J.sub (ls' := [(0, jr G 109), (1, .int v1), (2, .int v2), (3, .int (v3 + (0 : Int32))), (4, .int (v4 + (1 : Int32)))]) [2, 3, 4, 1, 0] rfl (ih (v3 + (0 : Int32)) (v4 + (1 : Int32)) m3 _ h)
        · rw [if_pos c] at h
          refine J.iconst (v := (1 : Int32)) d_M_numberOf_47 ki_1 ?_
          refine J.nop (pc' := 48) rfl ?_
          refine J.goto 52 d_M_numberOf_48 rfl ?_
          refine J.iadd d_M_numberOf_52 ?_
          refine J.istore_n (lv := [(3, .int (v3 + (1 : Int32))), (0, jr G 109), (1, .int v1), (2, .int v2), (4, .int v4)]) d_M_numberOf_53 rfl (by decide) rfl ?_
          refine J.iinc 4 (v := (1 : Int32)) (lv := [(4, .int (v4 + (1 : Int32))), (3, .int (v3 + (1 : Int32))), (0, jr G 109), (1, .int v1), (2, .int v2)]) d_M_numberOf_54 rfl ki_1 (by decide) rfl ?_
          refine J.goto 19 d_M_numberOf_57 rfl ?_
          exact J.sub (ls' := [(0, jr G 109), (1, .int v1), (2, .int v2), (3, .int (v3 + (1 : Int32))), (4, .int (v4 + (1 : Int32)))]) [2, 3, 4, 1, 0] rfl (ih (v3 + (1 : Int32)) (v4 + (1 : Int32)) m3 _ h)
theorem c_M_numberOf {G : jG} (hG : jFul G) {v1 : Int32} {v2 : Int32} {m : jMem} {r : (Int32 × jMem)} (h : f_M_numberOf v1 v2 m = some r) : jCt G Y_M_numberOf [jr G 109, .int v1, .int v2] m (jri r) := by
  refine jCt.ov (ls := [(0, jr G 109), (1, .int v1), (2, .int v2)]) mi_M_numberOf (jAvR (jAvI (jAvI jAvN))) (Nat.le_of_ble_eq_true rfl) ?_ ⟨rfl, rfl⟩
  unfold f_M_numberOf at h
  refine J.aload_n 0 d_M_numberOf_0 rfl rfl ?_
  refine J.getF (n := 121) hG d_M_numberOf_1 fl_M_48 ck_109_34 rfl ?_
  refine J.iload_n 1 d_M_numberOf_4 rfl rfl ?_
  obtain ⟨x1, ex1, g, h⟩ := jld_some h
  refine J.il hG d_M_numberOf_5 g ex1 ?_
  refine J.iload_n 2 d_M_numberOf_6 rfl rfl ?_
  refine J.icmp_ne 14 d_M_numberOf_7 rfl (fun c => ?_) (fun c => ?_)
  · rw [if_neg c] at h
    refine J.iconst (v := (0 : Int32)) d_M_numberOf_14 ki_0 ?_
    refine J.istore_n (lv := [(3, .int (0 : Int32)), (0, jr G 109), (1, .int v1), (2, .int v2)]) d_M_numberOf_15 rfl (by decide) rfl ?_
    refine J.iconst (v := (0 : Int32)) d_M_numberOf_16 ki_0 ?_
    refine J.istore (lv := [(4, .int (0 : Int32)), (3, .int (0 : Int32)), (0, jr G 109), (1, .int v1), (2, .int v2)]) d_M_numberOf_17 (by decide) rfl ?_
    refine J.sub (ls' := [(0, jr G 109), (1, .int v1), (2, .int v2), (3, .int (0 : Int32)), (4, .int (0 : Int32))]) [2, 3, 4, 1, 0] rfl ?_
    refine jlp_M_numberOf_19 hG v1 v2 _ ?_ _ (0 : Int32) (0 : Int32) m _ h
    intro w6 m5 r h
    refine J.iload_n 0 d_M_numberOf_60 rfl rfl ?_
    cases h
    exact J.iret d_M_numberOf_61 rfl (vp_nar_int _) rfl
  · rw [if_pos c] at h
    refine J.iconst (v := (1 : Int32)) d_M_numberOf_10 ki_1 ?_
    refine J.goto 15 d_M_numberOf_11 rfl ?_
    refine J.istore_n (lv := [(3, .int (1 : Int32)), (0, jr G 109), (1, .int v1), (2, .int v2)]) d_M_numberOf_15 rfl (by decide) rfl ?_
    refine J.iconst (v := (0 : Int32)) d_M_numberOf_16 ki_0 ?_
    refine J.istore (lv := [(4, .int (0 : Int32)), (3, .int (1 : Int32)), (0, jr G 109), (1, .int v1), (2, .int v2)]) d_M_numberOf_17 (by decide) rfl ?_
    refine J.sub (ls' := [(0, jr G 109), (1, .int v1), (2, .int v2), (3, .int (1 : Int32)), (4, .int (0 : Int32))]) [2, 3, 4, 1, 0] rfl ?_
    refine jlp_M_numberOf_19 hG v1 v2 _ ?_ _ (1 : Int32) (0 : Int32) m _ h
    intro w8 m7 r h
    refine J.iload_n 0 d_M_numberOf_60 rfl rfl ?_
    cases h
    exact J.iret d_M_numberOf_61 rfl (vp_nar_int _) rfl

def f_M_number (v1 : Int32) (v2 : Int32) (m : jMem) : Option (Int32 × jMem) :=
  jpu m 109 0 (0 : Int32) fun m1 =>
  jbd (f_M_isLetter v1 m1) fun x2 m3 =>
  if x2 = 0 then
    some ((-1 : Int32), m3)
  else
    jbd (f_M_isWriter v2 m3) fun x4 m5 =>
    if x4 = 0 then
      some ((-1 : Int32), m5)
    else
      jbd (f_M_numberOf v1 v2 m5) fun x6 m7 =>
      some (x6, m7)
theorem c_M_number {G : jG} (hG : jFul G) {v1 : Int32} {v2 : Int32} {m : jMem} {r : (Int32 × jMem)} (h : f_M_number v1 v2 m = some r) : jCt G Y_M_number [jr G 109, .int v1, .int v2] m (jri r) := by
  refine jCt.ov (ls := [(0, jr G 109), (1, .int v1), (2, .int v2)]) mi_M_number (jAvR (jAvI (jAvI jAvN))) (Nat.le_of_ble_eq_true rfl) ?_ ⟨rfl, rfl⟩
  unfold f_M_number at h
  refine J.aload_n 0 d_M_number_0 rfl rfl ?_
  refine J.iconst (v := (0 : Int32)) d_M_number_1 ki_0 ?_
  obtain ⟨m1, hm1, h⟩ := jpu_some h
  refine J.putI hG d_M_number_2 fl_M_132 fp_10_0 ck_109_0 hm1 ?_
  refine J.aload_n 0 d_M_number_5 rfl rfl ?_
  refine J.iload_n 1 d_M_number_6 rfl rfl ?_
  obtain ⟨x2, m3, zm3, h⟩ := jbd_some h
  refine J.cVi Y_M_isLetter (As := [.int v1]) (rest := []) hG d_M_number_7 mi_M_isLetter mv_M_isLetter lk_M_309 ⟨rfl, rfl, Nat.le_of_ble_eq_true rfl⟩ cq_109 cc_10 (c_M_isLetter hG zm3) rfl (Nat.le_trans jcN (Nat.le_of_ble_eq_true rfl)) ?_
  refine J.if_eq 29 d_M_number_10 rfl (fun c => ?_) (fun c => ?_)
  · rw [if_pos c] at h
    refine J.iconst (v := (-1 : Int32)) d_M_number_29 ki_m1 ?_
    cases h
    exact J.iret d_M_number_30 rfl (vp_nar_int _) rfl
  · rw [if_neg c] at h
    refine J.iload_n 2 d_M_number_13 rfl rfl ?_
    refine J.nop (pc' := 14) rfl ?_
    obtain ⟨x4, m5, zm5, h⟩ := jbd_some h
    refine J.cSi Y_M_isWriter (As := [.int v2]) (rest := []) d_M_number_14 mi_M_isWriter ms_M_isWriter lk_M_280 ⟨rfl, rfl, Nat.le_of_ble_eq_true rfl⟩ (c_M_isWriter hG zm5) rfl (Nat.le_trans jcN (Nat.le_of_ble_eq_true rfl)) ?_
    refine J.if_eq 29 d_M_number_17 rfl (fun c => ?_) (fun c => ?_)
    · rw [if_pos c] at h
      refine J.iconst (v := (-1 : Int32)) d_M_number_29 ki_m1 ?_
      cases h
      exact J.iret d_M_number_30 rfl (vp_nar_int _) rfl
    · rw [if_neg c] at h
      refine J.aload_n 0 d_M_number_20 rfl rfl ?_
      refine J.iload_n 1 d_M_number_21 rfl rfl ?_
      refine J.iload_n 2 d_M_number_22 rfl rfl ?_
      obtain ⟨x6, m7, zm7, h⟩ := jbd_some h
      refine J.cVi Y_M_numberOf (As := [.int v1, .int v2]) (rest := []) hG d_M_number_23 mi_M_numberOf mv_M_numberOf lk_M_361 ⟨rfl, rfl, Nat.le_of_ble_eq_true rfl⟩ cq_109 cc_10 (c_M_numberOf hG zm7) rfl (Nat.le_trans jcN (Nat.le_of_ble_eq_true rfl)) ?_
      refine J.goto 30 d_M_number_26 rfl ?_
      cases h
      exact J.iret d_M_number_30 rfl (vp_nar_int _) rfl

def lp_M_pair_35 (v1 : Int32) (v2 : Int32) (v3 : Int32) (k88 : Int32 → jMem → Option (Int32 × jMem)) : Nat → Int32 → Int32 → jMem → Option (Int32 × jMem)
  | 0, _, _, _ => none
  | n + 1, v4, v5, m =>
    if v1 < v5 then
      k88 v4 m
    else
      jld 1 m 121 v5 fun x8 =>
      if x8 = v3 then
        if v5 = v1 then
          jbd (f_M_numberOf v5 v2 m) fun x9 m10 =>
          lp_M_pair_35 v1 v2 v3 k88 n (jmax v4 x9) (v5 + (1 : Int32)) m10
        else
          jbd (f_M_isBefore v5 v1 m) fun x11 m12 =>
          if x11 = 0 then
            lp_M_pair_35 v1 v2 v3 k88 n v4 (v5 + (1 : Int32)) m12
          else
            jbd (f_M_numberOf v5 v2 m12) fun x13 m14 =>
            lp_M_pair_35 v1 v2 v3 k88 n (jmax v4 x13) (v5 + (1 : Int32)) m14
      else
        lp_M_pair_35 v1 v2 v3 k88 n v4 (v5 + (1 : Int32)) m
def f_M_pair (v1 : Int32) (v2 : Int32) (v3 : Int32) (m : jMem) : Option (Int32 × jMem) :=
  jpu m 109 0 (0 : Int32) fun m1 =>
  jbd (f_M_isLetter v1 m1) fun x2 m3 =>
  if x2 = 0 then
    some ((-1 : Int32), m3)
  else
    jbd (f_M_isWriter v2 m3) fun x4 m5 =>
    if x4 = 0 then
      some ((-1 : Int32), m5)
    else
      jbd (f_M_isWriter v3 m5) fun x6 m7 =>
      if x6 = 0 then
        some ((-1 : Int32), m7)
      else
        lp_M_pair_35 v1 v2 v3 (fun w16 m15 =>
          some (w16, m15)) 5000 (0 : Int32) (0 : Int32) m7
theorem jlp_M_pair_35 {G : jG} (hG : jFul G) (v1 : Int32) (v2 : Int32) (v3 : Int32) (k88 : Int32 → jMem → Option (Int32 × jMem))
    (hk88 : ∀ (v4 : Int32) (m : jMem) (r : (Int32 × jMem)), k88 v4 m = some r → J G Y_M_pair 88 [(4, .int v4)] [] m (jri r)) : ∀ (n : Nat) (v4 : Int32) (v5 : Int32) (m : jMem) (r : (Int32 × jMem)), lp_M_pair_35 v1 v2 v3 k88 n v4 v5 m = some r → J G Y_M_pair 35 [(0, jr G 109), (1, .int v1), (2, .int v2), (3, .int v3), (4, .int v4), (5, .int v5)] [] m (jri r) := by
  intro n
  induction n with
  | zero => intro v4 v5 m r h; unfold lp_M_pair_35 at h; cases h
  | succ n ih =>
    intro v4 v5 m r h
    unfold lp_M_pair_35 at h
    refine J.iload 5 d_M_pair_35 rfl ?_
    refine J.iload_n 1 d_M_pair_37 rfl rfl ?_
    refine J.icmp_gt 88 d_M_pair_38 rfl (fun c => ?_) (fun c => ?_)
    · rw [if_pos c] at h
      exact J.sub (ls' := [(4, .int v4)]) [4] rfl (hk88 v4 m _ h)
    · rw [if_neg c] at h
      refine J.aload_n 0 d_M_pair_41 rfl rfl ?_
      refine J.getF (n := 121) hG d_M_pair_42 fl_M_48 ck_109_34 rfl ?_
      refine J.iload 5 d_M_pair_45 rfl ?_
      obtain ⟨x8, ex8, g, h⟩ := jld_some h
      refine J.il hG d_M_pair_47 g ex8 ?_
      refine J.iload_n 3 d_M_pair_48 rfl rfl ?_
      refine J.nop (pc' := 49) rfl ?_
      refine J.icmp_ne 82 d_M_pair_49 rfl (fun c => ?_) (fun c => ?_)
      · rw [if_neg c] at h
        refine J.iinc 5 (v := (1 : Int32)) (lv := [(5, .int (v5 + (1 : Int32))), (0, jr G 109), (1, .int v1), (2, .int v2), (3, .int v3), (4, .int v4)]) d_M_pair_82 rfl ki_1 (by decide) rfl ?_
        refine J.goto 35 d_M_pair_85 rfl ?_
        exact J.sub (ls' := [(0, jr G 109), (1, .int v1), (2, .int v2), (3, .int v3), (4, .int v4), (5, .int (v5 + (1 : Int32)))]) [1, 2, 3, 4, 5, 0] rfl (ih v4 (v5 + (1 : Int32)) m _ h)
      · rw [if_pos c] at h
        refine J.iload 5 d_M_pair_52 rfl ?_
        refine J.iload_n 1 d_M_pair_54 rfl rfl ?_
        refine J.icmp_eq 68 d_M_pair_55 rfl (fun c => ?_) (fun c => ?_)
        · rw [if_pos c] at h
          refine J.iload 4 d_M_pair_68 rfl ?_
          refine J.aload_n 0 d_M_pair_70 rfl rfl ?_
          refine J.iload 5 d_M_pair_71 rfl ?_
          refine J.iload_n 2 d_M_pair_73 rfl rfl ?_
          obtain ⟨x9, m10, zm10, h⟩ := jbd_some h
          refine J.cVi Y_M_numberOf (As := [.int v5, .int v2]) (rest := [.int v4]) hG d_M_pair_74 mi_M_numberOf mv_M_numberOf lk_M_361 ⟨rfl, rfl, Nat.le_of_ble_eq_true rfl⟩ cq_109 cc_10 (c_M_numberOf hG zm10) rfl (Nat.le_trans (jcI jcN) (Nat.le_of_ble_eq_true rfl)) ?_
          refine J.mx d_M_pair_77 (jt_7 227 rfl rfl) (jt_3 69 rfl rfl) (jt_1 14 rfl rfl) (jt_3 70 rfl rfl) (Nat.le_trans jcN (Nat.le_of_ble_eq_true rfl)) ?_
          refine J.istore (lv := [(4, .int (jmax v4 x9)), (0, jr G 109), (1, .int v1), (2, .int v2), (3, .int v3), (5, .int v5)]) d_M_pair_80 (by decide) rfl ?_
          refine J.iinc 5 (v := (1 : Int32)) (lv := [(5, .int (v5 + (1 : Int32))), (4, .int (jmax v4 x9)), (0, jr G 109), (1, .int v1), (2, .int v2), (3, .int v3)]) d_M_pair_82 rfl ki_1 (by decide) rfl ?_
          refine J.nop (pc' := 85) rfl ?_
          refine J.goto 35 d_M_pair_85 rfl ?_
          exact J.sub (ls' := [(0, jr G 109), (1, .int v1), (2, .int v2), (3, .int v3), (4, .int (jmax v4 x9)), (5, .int (v5 + (1 : Int32)))]) [2, 3, 4, 5, 1, 0] rfl (ih (jmax v4 x9) (v5 + (1 : Int32)) m10 _ h)
        · rw [if_neg c] at h
          refine J.aload_n 0 d_M_pair_58 rfl rfl ?_
          refine J.iload 5 d_M_pair_59 rfl ?_
          refine J.iload_n 1 d_M_pair_61 rfl rfl ?_
          obtain ⟨x11, m12, zm12, h⟩ := jbd_some h
          refine J.cVi Y_M_isBefore (As := [.int v5, .int v1]) (rest := []) hG d_M_pair_62 mi_M_isBefore mv_M_isBefore lk_M_350 ⟨rfl, rfl, Nat.le_of_ble_eq_true rfl⟩ cq_109 cc_10 (c_M_isBefore hG zm12) rfl (Nat.le_trans jcN (Nat.le_of_ble_eq_true rfl)) ?_
          refine J.nop (pc' := 65) rfl ?_
          refine J.if_eq 82 d_M_pair_65 rfl (fun c => ?_) (fun c => ?_)
          · rw [if_pos c] at h
            refine J.iinc 5 (v := (1 : Int32)) (lv := [(5, .int (v5 + (1 : Int32))), (0, jr G 109), (1, .int v1), (2, .int v2), (3, .int v3), (4, .int v4)]) d_M_pair_82 rfl ki_1 (by decide) rfl ?_
            refine J.goto 35 d_M_pair_85 rfl ?_
            exact J.sub (ls' := [(0, jr G 109), (1, .int v1), (2, .int v2), (3, .int v3), (4, .int v4), (5, .int (v5 + (1 : Int32)))]) [1, 2, 3, 4, 5, 0] rfl (ih v4 (v5 + (1 : Int32)) m12 _ h)
          · rw [if_neg c] at h
            refine J.iload 4 d_M_pair_68 rfl ?_
            refine J.aload_n 0 d_M_pair_70 rfl rfl ?_
            refine J.iload 5 d_M_pair_71 rfl ?_
            refine J.iload_n 2 d_M_pair_73 rfl rfl ?_
            obtain ⟨x13, m14, zm14, h⟩ := jbd_some h
            refine J.cVi Y_M_numberOf (As := [.int v5, .int v2]) (rest := [.int v4]) hG d_M_pair_74 mi_M_numberOf mv_M_numberOf lk_M_361 ⟨rfl, rfl, Nat.le_of_ble_eq_true rfl⟩ cq_109 cc_10 (c_M_numberOf hG zm14) rfl (Nat.le_trans (jcI jcN) (Nat.le_of_ble_eq_true rfl)) ?_
            refine J.mx d_M_pair_77 (jt_7 227 rfl rfl) (jt_3 69 rfl rfl) (jt_1 14 rfl rfl) (jt_3 70 rfl rfl) (Nat.le_trans jcN (Nat.le_of_ble_eq_true rfl)) ?_
            refine J.istore (lv := [(4, .int (jmax v4 x13)), (0, jr G 109), (1, .int v1), (2, .int v2), (3, .int v3), (5, .int v5)]) d_M_pair_80 (by decide) rfl ?_
            refine J.nop (pc' := 82) rfl ?_
            refine J.iinc 5 (v := (1 : Int32)) (lv := [(5, .int (v5 + (1 : Int32))), (4, .int (jmax v4 x13)), (0, jr G 109), (1, .int v1), (2, .int v2), (3, .int v3)]) d_M_pair_82 rfl ki_1 (by decide) rfl ?_
            refine J.goto 35 d_M_pair_85 rfl ?_
            exact J.sub (ls' := [(0, jr G 109), (1, .int v1), (2, .int v2), (3, .int v3), (4, .int (jmax v4 x13)), (5, .int (v5 + (1 : Int32)))]) [2, 3, 4, 5, 1, 0] rfl (ih (jmax v4 x13) (v5 + (1 : Int32)) m14 _ h)
theorem c_M_pair {G : jG} (hG : jFul G) {v1 : Int32} {v2 : Int32} {v3 : Int32} {m : jMem} {r : (Int32 × jMem)} (h : f_M_pair v1 v2 v3 m = some r) : jCt G Y_M_pair [jr G 109, .int v1, .int v2, .int v3] m (jri r) := by
  refine jCt.ov (ls := [(0, jr G 109), (1, .int v1), (2, .int v2), (3, .int v3)]) mi_M_pair (jAvR (jAvI (jAvI (jAvI jAvN)))) (Nat.le_of_ble_eq_true rfl) ?_ ⟨rfl, rfl⟩
  unfold f_M_pair at h
  refine J.aload_n 0 d_M_pair_0 rfl rfl ?_
  refine J.iconst (v := (0 : Int32)) d_M_pair_1 ki_0 ?_
  obtain ⟨m1, hm1, h⟩ := jpu_some h
  refine J.putI hG d_M_pair_2 fl_M_132 fp_10_0 ck_109_0 hm1 ?_
  refine J.aload_n 0 d_M_pair_5 rfl rfl ?_
  refine J.iload_n 1 d_M_pair_6 rfl rfl ?_
  obtain ⟨x2, m3, zm3, h⟩ := jbd_some h
  refine J.cVi Y_M_isLetter (As := [.int v1]) (rest := []) hG d_M_pair_7 mi_M_isLetter mv_M_isLetter lk_M_309 ⟨rfl, rfl, Nat.le_of_ble_eq_true rfl⟩ cq_109 cc_10 (c_M_isLetter hG zm3) rfl (Nat.le_trans jcN (Nat.le_of_ble_eq_true rfl)) ?_
  refine J.if_eq 27 d_M_pair_10 rfl (fun c => ?_) (fun c => ?_)
  · rw [if_pos c] at h
    refine J.iconst (v := (-1 : Int32)) d_M_pair_27 ki_m1 ?_
    cases h
    exact J.iret d_M_pair_28 rfl (vp_nar_int _) rfl
  · rw [if_neg c] at h
    refine J.iload_n 2 d_M_pair_13 rfl rfl ?_
    refine J.nop (pc' := 14) rfl ?_
    obtain ⟨x4, m5, zm5, h⟩ := jbd_some h
    refine J.cSi Y_M_isWriter (As := [.int v2]) (rest := []) d_M_pair_14 mi_M_isWriter ms_M_isWriter lk_M_280 ⟨rfl, rfl, Nat.le_of_ble_eq_true rfl⟩ (c_M_isWriter hG zm5) rfl (Nat.le_trans jcN (Nat.le_of_ble_eq_true rfl)) ?_
    refine J.if_eq 27 d_M_pair_17 rfl (fun c => ?_) (fun c => ?_)
    · rw [if_pos c] at h
      refine J.iconst (v := (-1 : Int32)) d_M_pair_27 ki_m1 ?_
      cases h
      exact J.iret d_M_pair_28 rfl (vp_nar_int _) rfl
    · rw [if_neg c] at h
      refine J.iload_n 3 d_M_pair_20 rfl rfl ?_
      obtain ⟨x6, m7, zm7, h⟩ := jbd_some h
      refine J.cSi Y_M_isWriter (As := [.int v3]) (rest := []) d_M_pair_21 mi_M_isWriter ms_M_isWriter lk_M_280 ⟨rfl, rfl, Nat.le_of_ble_eq_true rfl⟩ (c_M_isWriter hG zm7) rfl (Nat.le_trans jcN (Nat.le_of_ble_eq_true rfl)) ?_
      refine J.if_ne 29 d_M_pair_24 rfl (fun c => ?_) (fun c => ?_)
      · rw [if_neg c] at h
        refine J.iconst (v := (0 : Int32)) d_M_pair_29 ki_0 ?_
        refine J.istore (lv := [(4, .int (0 : Int32)), (0, jr G 109), (1, .int v1), (2, .int v2), (3, .int v3)]) d_M_pair_30 (by decide) rfl ?_
        refine J.iconst (v := (0 : Int32)) d_M_pair_32 ki_0 ?_
        refine J.istore (lv := [(5, .int (0 : Int32)), (4, .int (0 : Int32)), (0, jr G 109), (1, .int v1), (2, .int v2), (3, .int v3)]) d_M_pair_33 (by decide) rfl ?_
        refine J.sub (ls' := [(0, jr G 109), (1, .int v1), (2, .int v2), (3, .int v3), (4, .int (0 : Int32)), (5, .int (0 : Int32))]) [2, 3, 4, 5, 1, 0] rfl ?_
        refine jlp_M_pair_35 hG v1 v2 v3 _ ?_ _ (0 : Int32) (0 : Int32) m7 _ h
        intro w16 m15 r h
        refine J.iload 0 d_M_pair_88 rfl ?_
        cases h
        exact J.iret d_M_pair_90 rfl (vp_nar_int _) rfl
      · rw [if_pos c] at h
        refine J.iconst (v := (-1 : Int32)) d_M_pair_27 ki_m1 ?_
        cases h
        exact J.iret d_M_pair_28 rfl (vp_nar_int _) rfl

def lp_M_listOf_9 (v1 : Int32) (k40 : Int32 → jMem → Option (Int32 × jMem)) : Nat → Int32 → Int32 → jMem → Option (Int32 × jMem)
  | 0, _, _, _ => none
  | n + 1, v2, v3, m =>
    if v1 ≤ v3 then
      k40 v2 m
    else
      jbd (f_M_isBefore v3 v1 m) fun x2 m3 =>
      if x2 = 0 then
        lp_M_listOf_9 v1 k40 n v2 (v3 + (1 : Int32)) m3
      else
        jld 1 m3 128 v3 fun x4 =>
        lp_M_listOf_9 v1 k40 n (v2 &&& (x4 ^^^ (-1 : Int32))) (v3 + (1 : Int32)) m3
def f_M_listOf (v1 : Int32) (m : jMem) : Option (Int32 × jMem) :=
  jld 1 m 128 v1 fun x1 =>
  lp_M_listOf_9 v1 (fun w6 m5 =>
    some (w6, m5)) 5000 x1 (0 : Int32) m
theorem jlp_M_listOf_9 {G : jG} (hG : jFul G) (v1 : Int32) (k40 : Int32 → jMem → Option (Int32 × jMem))
    (hk40 : ∀ (v2 : Int32) (m : jMem) (r : (Int32 × jMem)), k40 v2 m = some r → J G Y_M_listOf 40 [(2, .int v2)] [] m (jri r)) : ∀ (n : Nat) (v2 : Int32) (v3 : Int32) (m : jMem) (r : (Int32 × jMem)), lp_M_listOf_9 v1 k40 n v2 v3 m = some r → J G Y_M_listOf 9 [(0, jr G 109), (1, .int v1), (2, .int v2), (3, .int v3)] [] m (jri r) := by
  intro n
  induction n with
  | zero => intro v2 v3 m r h; unfold lp_M_listOf_9 at h; cases h
  | succ n ih =>
    intro v2 v3 m r h
    unfold lp_M_listOf_9 at h
    refine J.iload_n 3 d_M_listOf_9 rfl rfl ?_
    refine J.iload_n 1 d_M_listOf_10 rfl rfl ?_
    refine J.icmp_ge 40 d_M_listOf_11 rfl (fun c => ?_) (fun c => ?_)
    · rw [if_pos c] at h
      exact J.sub (ls' := [(2, .int v2)]) [2] rfl (hk40 v2 m _ h)
    · rw [if_neg c] at h
      refine J.aload_n 0 d_M_listOf_14 rfl rfl ?_
      refine J.iload_n 3 d_M_listOf_15 rfl rfl ?_
      refine J.iload_n 1 d_M_listOf_16 rfl rfl ?_
      obtain ⟨x2, m3, zm3, h⟩ := jbd_some h
      refine J.cVi Y_M_isBefore (As := [.int v3, .int v1]) (rest := []) hG d_M_listOf_17 mi_M_isBefore mv_M_isBefore lk_M_350 ⟨rfl, rfl, Nat.le_of_ble_eq_true rfl⟩ cq_109 cc_10 (c_M_isBefore hG zm3) rfl (Nat.le_trans jcN (Nat.le_of_ble_eq_true rfl)) ?_
      refine J.if_eq 34 d_M_listOf_20 rfl (fun c => ?_) (fun c => ?_)
      · rw [if_pos c] at h
        refine J.iinc 3 (v := (1 : Int32)) (lv := [(3, .int (v3 + (1 : Int32))), (0, jr G 109), (1, .int v1), (2, .int v2)]) d_M_listOf_34 rfl ki_1 (by decide) rfl ?_
        refine J.goto 9 d_M_listOf_37 rfl ?_
        exact J.sub (ls' := [(0, jr G 109), (1, .int v1), (2, .int v2), (3, .int (v3 + (1 : Int32)))]) [1, 2, 3, 0] rfl (ih v2 (v3 + (1 : Int32)) m3 _ h)
      · rw [if_neg c] at h
        refine J.nop (pc' := 23) rfl ?_
        refine J.iload_n 2 d_M_listOf_23 rfl rfl ?_
        refine J.aload_n 0 d_M_listOf_24 rfl rfl ?_
        refine J.getF (n := 128) hG d_M_listOf_25 fl_M_69 ck_109_41 rfl ?_
        refine J.iload_n 3 d_M_listOf_28 rfl rfl ?_
        obtain ⟨x4, ex4, g, h⟩ := jld_some h
        refine J.il hG d_M_listOf_29 g ex4 ?_
        refine J.iconst (v := (-1 : Int32)) d_M_listOf_30 ki_m1 ?_
        refine J.ixor d_M_listOf_31 ?_
        refine J.iand d_M_listOf_32 ?_
        refine J.nop (pc' := 33) rfl ?_
        refine J.istore_n (lv := [(2, .int (v2 &&& (x4 ^^^ (-1 : Int32)))), (0, jr G 109), (1, .int v1), (3, .int v3)]) d_M_listOf_33 rfl (by decide) rfl ?_
        refine J.iinc 3 (v := (1 : Int32)) (lv := [(3, .int (v3 + (1 : Int32))), (2, .int (v2 &&& (x4 ^^^ (-1 : Int32)))), (0, jr G 109), (1, .int v1)]) d_M_listOf_34 rfl ki_1 (by decide) rfl ?_
        refine J.goto 9 d_M_listOf_37 rfl ?_
        exact J.sub (ls' := [(0, jr G 109), (1, .int v1), (2, .int (v2 &&& (x4 ^^^ (-1 : Int32)))), (3, .int (v3 + (1 : Int32)))]) [2, 3, 1, 0] rfl (ih (v2 &&& (x4 ^^^ (-1 : Int32))) (v3 + (1 : Int32)) m3 _ h)
theorem c_M_listOf {G : jG} (hG : jFul G) {v1 : Int32} {m : jMem} {r : (Int32 × jMem)} (h : f_M_listOf v1 m = some r) : jCt G Y_M_listOf [jr G 109, .int v1] m (jri r) := by
  refine jCt.ov (ls := [(0, jr G 109), (1, .int v1)]) mi_M_listOf (jAvR (jAvI jAvN)) (Nat.le_of_ble_eq_true rfl) ?_ ⟨rfl, rfl⟩
  unfold f_M_listOf at h
  refine J.aload_n 0 d_M_listOf_0 rfl rfl ?_
  refine J.getF (n := 128) hG d_M_listOf_1 fl_M_69 ck_109_41 rfl ?_
  refine J.iload_n 1 d_M_listOf_4 rfl rfl ?_
  obtain ⟨x1, ex1, g, h⟩ := jld_some h
  refine J.il hG d_M_listOf_5 g ex1 ?_
  refine J.istore_n (lv := [(2, .int x1), (0, jr G 109), (1, .int v1)]) d_M_listOf_6 rfl (by decide) rfl ?_
  refine J.iconst (v := (0 : Int32)) d_M_listOf_7 ki_0 ?_
  refine J.istore_n (lv := [(3, .int (0 : Int32)), (2, .int x1), (0, jr G 109), (1, .int v1)]) d_M_listOf_8 rfl (by decide) rfl ?_
  refine J.sub (ls' := [(0, jr G 109), (1, .int v1), (2, .int x1), (3, .int (0 : Int32))]) [2, 3, 1, 0] rfl ?_
  refine jlp_M_listOf_9 hG v1 _ ?_ _ x1 (0 : Int32) m _ h
  intro w6 m5 r h
  refine J.iload_n 0 d_M_listOf_40 rfl rfl ?_
  cases h
  exact J.iret d_M_listOf_41 rfl (vp_nar_int _) rfl

def f_M_list (v1 : Int32) (m : jMem) : Option (Int32 × jMem) :=
  jpu m 109 0 (0 : Int32) fun m1 =>
  jbd (f_M_isLetter v1 m1) fun x2 m3 =>
  if x2 = 0 then
    some ((-1 : Int32), m3)
  else
    jbd (f_M_listOf v1 m3) fun x4 m5 =>
    some (x4, m5)
theorem c_M_list {G : jG} (hG : jFul G) {v1 : Int32} {m : jMem} {r : (Int32 × jMem)} (h : f_M_list v1 m = some r) : jCt G Y_M_list [jr G 109, .int v1] m (jri r) := by
  refine jCt.ov (ls := [(0, jr G 109), (1, .int v1)]) mi_M_list (jAvR (jAvI jAvN)) (Nat.le_of_ble_eq_true rfl) ?_ ⟨rfl, rfl⟩
  unfold f_M_list at h
  refine J.aload_n 0 d_M_list_0 rfl rfl ?_
  refine J.iconst (v := (0 : Int32)) d_M_list_1 ki_0 ?_
  obtain ⟨m1, hm1, h⟩ := jpu_some h
  refine J.putI hG d_M_list_2 fl_M_132 fp_10_0 ck_109_0 hm1 ?_
  refine J.aload_n 0 d_M_list_5 rfl rfl ?_
  refine J.iload_n 1 d_M_list_6 rfl rfl ?_
  obtain ⟨x2, m3, zm3, h⟩ := jbd_some h
  refine J.cVi Y_M_isLetter (As := [.int v1]) (rest := []) hG d_M_list_7 mi_M_isLetter mv_M_isLetter lk_M_309 ⟨rfl, rfl, Nat.le_of_ble_eq_true rfl⟩ cq_109 cc_10 (c_M_isLetter hG zm3) rfl (Nat.le_trans jcN (Nat.le_of_ble_eq_true rfl)) ?_
  refine J.if_eq 21 d_M_list_10 rfl (fun c => ?_) (fun c => ?_)
  · rw [if_pos c] at h
    refine J.iconst (v := (-1 : Int32)) d_M_list_21 ki_m1 ?_
    cases h
    exact J.iret d_M_list_22 rfl (vp_nar_int _) rfl
  · rw [if_neg c] at h
    refine J.aload_n 0 d_M_list_13 rfl rfl ?_
    refine J.nop (pc' := 14) rfl ?_
    refine J.iload_n 1 d_M_list_14 rfl rfl ?_
    obtain ⟨x4, m5, zm5, h⟩ := jbd_some h
    refine J.cVi Y_M_listOf (As := [.int v1]) (rest := []) hG d_M_list_15 mi_M_listOf mv_M_listOf lk_M_364 ⟨rfl, rfl, Nat.le_of_ble_eq_true rfl⟩ cq_109 cc_10 (c_M_listOf hG zm5) rfl (Nat.le_trans jcN (Nat.le_of_ble_eq_true rfl)) ?_
    refine J.goto 22 d_M_list_18 rfl ?_
    cases h
    exact J.iret d_M_list_22 rfl (vp_nar_int _) rfl

def f_M_through (v1 : Int32) (v2 : Int32) (v3 : Int32) (m : jMem) : Option (Unit × jMem) :=
  if v2 = (-1 : Int32) then
    some ((), m)
  else
    if v3 = 0 then
      jld 1 m 141 v1 fun x1 =>
      jld 1 m 141 v2 fun x2 =>
      jst 1 m 141 v1 (x1 ||| (((1 : Int32) <<< (v2 &&& 31)) ||| x2)) fun m3 =>
      some ((), m3)
    else
      jld 2 m 129 v2 fun x4 =>
      if x4 = 0 then
        jld 1 m 141 v1 fun x5 =>
        jld 1 m 141 v2 fun x6 =>
        jst 1 m 141 v1 (x5 ||| (((1 : Int32) <<< (v2 &&& 31)) ||| x6)) fun m7 =>
        some ((), m7)
      else
        some ((), m)
theorem c_M_through {G : jG} (hG : jFul G) {v1 : Int32} {v2 : Int32} {v3 : Int32} {m : jMem} {r : (Unit × jMem)} (h : f_M_through v1 v2 v3 m = some r) : jCt G Y_M_through [jr G 109, .int v1, .int v2, .int v3] m (jrv r) := by
  refine jCt.ov (ls := [(0, jr G 109), (1, .int v1), (2, .int v2), (3, .int v3)]) mi_M_through (jAvR (jAvI (jAvI (jAvI jAvN)))) (Nat.le_of_ble_eq_true rfl) ?_ ⟨rfl, rfl⟩
  unfold f_M_through at h
  refine J.iload_n 2 d_M_through_0 rfl rfl ?_
  refine J.iconst (v := (-1 : Int32)) d_M_through_1 ki_m1 ?_
  refine J.icmp_eq 18 d_M_through_2 rfl (fun c => ?_) (fun c => ?_)
  · rw [if_pos c] at h
    cases h
    exact J.vret d_M_through_18 rfl rfl
  · rw [if_neg c] at h
    refine J.iload_n 3 d_M_through_5 rfl rfl ?_
    refine J.if_eq 19 d_M_through_6 rfl (fun c => ?_) (fun c => ?_)
    · rw [if_pos c] at h
      refine J.aload_n 0 d_M_through_19 rfl rfl ?_
      refine J.getF (n := 141) hG d_M_through_20 fl_M_108 ck_109_60 rfl ?_
      refine J.iload_n 1 d_M_through_23 rfl rfl ?_
      refine J.dup2 d_M_through_24 rfl (jr_cat _ _) ?_
      obtain ⟨x1, ex1, g, h⟩ := jld_some h
      refine J.il hG d_M_through_25 g ex1 ?_
      refine J.iconst (v := (1 : Int32)) d_M_through_26 ki_1 ?_
      refine J.iload_n 2 d_M_through_27 rfl rfl ?_
      refine J.ishl d_M_through_28 ?_
      refine J.nop (pc' := 29) rfl ?_
      refine J.aload_n 0 d_M_through_29 rfl rfl ?_
      refine J.getF (n := 141) hG d_M_through_30 fl_M_108 ck_109_60 rfl ?_
      refine J.iload_n 2 d_M_through_33 rfl rfl ?_
      obtain ⟨x2, ex2, g, h⟩ := jld_some h
      refine J.il hG d_M_through_34 g ex2 ?_
      refine J.ior d_M_through_35 ?_
      refine J.ior d_M_through_36 ?_
      obtain ⟨m3, hm3, g, h⟩ := jst_some h
      refine J.is hG d_M_through_37 g hm3 ?_
      cases h
      exact J.vret d_M_through_38 rfl rfl
    · rw [if_neg c] at h
      refine J.aload_n 0 d_M_through_9 rfl rfl ?_
      refine J.getF (n := 129) hG d_M_through_10 fl_M_72 ck_109_42 rfl ?_
      refine J.iload_n 2 d_M_through_13 rfl rfl ?_
      refine J.nop (pc' := 14) rfl ?_
      obtain ⟨x4, ex4, g, h⟩ := jld_some h
      refine J.zl hG d_M_through_14 g ex4 ?_
      refine J.if_eq 19 d_M_through_15 rfl (fun c => ?_) (fun c => ?_)
      · rw [if_pos c] at h
        refine J.aload_n 0 d_M_through_19 rfl rfl ?_
        refine J.getF (n := 141) hG d_M_through_20 fl_M_108 ck_109_60 rfl ?_
        refine J.iload_n 1 d_M_through_23 rfl rfl ?_
        refine J.dup2 d_M_through_24 rfl (jr_cat _ _) ?_
        obtain ⟨x5, ex5, g, h⟩ := jld_some h
        refine J.il hG d_M_through_25 g ex5 ?_
        refine J.iconst (v := (1 : Int32)) d_M_through_26 ki_1 ?_
        refine J.iload_n 2 d_M_through_27 rfl rfl ?_
        refine J.ishl d_M_through_28 ?_
        refine J.nop (pc' := 29) rfl ?_
        refine J.aload_n 0 d_M_through_29 rfl rfl ?_
        refine J.getF (n := 141) hG d_M_through_30 fl_M_108 ck_109_60 rfl ?_
        refine J.iload_n 2 d_M_through_33 rfl rfl ?_
        obtain ⟨x6, ex6, g, h⟩ := jld_some h
        refine J.il hG d_M_through_34 g ex6 ?_
        refine J.ior d_M_through_35 ?_
        refine J.ior d_M_through_36 ?_
        obtain ⟨m7, hm7, g, h⟩ := jst_some h
        refine J.is hG d_M_through_37 g hm7 ?_
        cases h
        exact J.vret d_M_through_38 rfl rfl
      · rw [if_neg c] at h
        cases h
        exact J.vret d_M_through_18 rfl rfl

def lp_M_byAnswers_2 (v1 : Int32) (k63 : jMem → Option (Unit × jMem)) : Nat → Int32 → jMem → Option (Unit × jMem)
  | 0, _, _ => none
  | n + 1, v2, m =>
    if (m 109 33) ≤ v2 then
      k63 m
    else
      jst 1 m 141 v2 (0 : Int32) fun m1 =>
      if v1 = 0 then
        jld 1 m1 125 v2 fun x2 =>
        jbd (f_M_through v2 x2 v1 m1) fun u3 m4 =>
        jld 1 m4 126 v2 fun x5 =>
        jbd (f_M_through v2 x5 v1 m4) fun u6 m7 =>
        lp_M_byAnswers_2 v1 k63 n (v2 + (1 : Int32)) m7
      else
        jld 2 m1 129 v2 fun x8 =>
        if x8 = 0 then
          jld 1 m1 125 v2 fun x9 =>
          jbd (f_M_through v2 x9 v1 m1) fun u10 m11 =>
          jld 1 m11 126 v2 fun x12 =>
          jbd (f_M_through v2 x12 v1 m11) fun u13 m14 =>
          lp_M_byAnswers_2 v1 k63 n (v2 + (1 : Int32)) m14
        else
          lp_M_byAnswers_2 v1 k63 n (v2 + (1 : Int32)) m1
def f_M_byAnswers (v1 : Int32) (m : jMem) : Option (Unit × jMem) :=
  lp_M_byAnswers_2 v1 (fun m15 =>
    some ((), m15)) 5000 (0 : Int32) m
theorem jlp_M_byAnswers_2 {G : jG} (hG : jFul G) (v1 : Int32) (k63 : jMem → Option (Unit × jMem))
    (hk63 : ∀ (m : jMem) (r : (Unit × jMem)), k63 m = some r → J G Y_M_byAnswers 63 [] [] m (jrv r)) : ∀ (n : Nat) (v2 : Int32) (m : jMem) (r : (Unit × jMem)), lp_M_byAnswers_2 v1 k63 n v2 m = some r → J G Y_M_byAnswers 2 [(0, jr G 109), (1, .int v1), (2, .int v2)] [] m (jrv r) := by
  intro n
  induction n with
  | zero => intro v2 m r h; unfold lp_M_byAnswers_2 at h; cases h
  | succ n ih =>
    intro v2 m r h
    unfold lp_M_byAnswers_2 at h
    refine J.iload_n 2 d_M_byAnswers_2 rfl rfl ?_
    refine J.aload_n 0 d_M_byAnswers_3 rfl rfl ?_
    refine J.getI hG d_M_byAnswers_4 fl_M_277 ck_109_33 ?_
    refine J.icmp_ge 63 d_M_byAnswers_7 rfl (fun c => ?_) (fun c => ?_)
    · rw [if_pos c] at h
      exact J.sub (ls' := []) [] rfl (hk63  m _ h)
    · rw [if_neg c] at h
      refine J.aload_n 0 d_M_byAnswers_10 rfl rfl ?_
      refine J.getF (n := 141) hG d_M_byAnswers_11 fl_M_108 ck_109_60 rfl ?_
      refine J.iload_n 2 d_M_byAnswers_14 rfl rfl ?_
      refine J.iconst (v := (0 : Int32)) d_M_byAnswers_15 ki_0 ?_
      refine J.nop (pc' := 16) rfl ?_
      obtain ⟨m1, hm1, g, h⟩ := jst_some h
      refine J.is hG d_M_byAnswers_16 g hm1 ?_
      refine J.iload_n 1 d_M_byAnswers_17 rfl rfl ?_
      refine J.if_eq 33 d_M_byAnswers_18 rfl (fun c => ?_) (fun c => ?_)
      · rw [if_pos c] at h
        refine J.aload_n 0 d_M_byAnswers_33 rfl rfl ?_
        refine J.iload_n 2 d_M_byAnswers_34 rfl rfl ?_
        refine J.aload_n 0 d_M_byAnswers_35 rfl rfl ?_
        refine J.getF (n := 125) hG d_M_byAnswers_36 fl_M_60 ck_109_38 rfl ?_
        refine J.iload_n 2 d_M_byAnswers_39 rfl rfl ?_
        obtain ⟨x2, ex2, g, h⟩ := jld_some h
        refine J.il hG d_M_byAnswers_40 g ex2 ?_
        refine J.iload_n 1 d_M_byAnswers_41 rfl rfl ?_
        obtain ⟨u3, m4, zm4, h⟩ := jbd_some h
        refine J.cVv Y_M_through (As := [.int v2, .int x2, .int v1]) (rest := []) hG d_M_byAnswers_42 mi_M_through mv_M_through lk_M_367 ⟨rfl, rfl, Nat.le_of_ble_eq_true rfl⟩ cq_109 cc_10 (c_M_through hG zm4) rfl (Nat.le_trans jcN (Nat.le_of_ble_eq_true rfl)) ?_
        refine J.nop (pc' := 45) rfl ?_
        refine J.aload_n 0 d_M_byAnswers_45 rfl rfl ?_
        refine J.iload_n 2 d_M_byAnswers_46 rfl rfl ?_
        refine J.aload_n 0 d_M_byAnswers_47 rfl rfl ?_
        refine J.getF (n := 126) hG d_M_byAnswers_48 fl_M_63 ck_109_39 rfl ?_
        refine J.iload_n 2 d_M_byAnswers_51 rfl rfl ?_
        obtain ⟨x5, ex5, g, h⟩ := jld_some h
        refine J.il hG d_M_byAnswers_52 g ex5 ?_
        refine J.iload_n 1 d_M_byAnswers_53 rfl rfl ?_
        obtain ⟨u6, m7, zm7, h⟩ := jbd_some h
        refine J.cVv Y_M_through (As := [.int v2, .int x5, .int v1]) (rest := []) hG d_M_byAnswers_54 mi_M_through mv_M_through lk_M_367 ⟨rfl, rfl, Nat.le_of_ble_eq_true rfl⟩ cq_109 cc_10 (c_M_through hG zm7) rfl (Nat.le_trans jcN (Nat.le_of_ble_eq_true rfl)) ?_
        refine J.nop (pc' := 57) rfl ?_
        refine J.iinc 2 (v := (1 : Int32)) (lv := [(2, .int (v2 + (1 : Int32))), (0, jr G 109), (1, .int v1)]) d_M_byAnswers_57 rfl ki_1 (by decide) rfl ?_
        refine J.goto 2 d_M_byAnswers_60 rfl ?_
        exact J.sub (ls' := [(0, jr G 109), (1, .int v1), (2, .int (v2 + (1 : Int32)))]) [1, 2, 0] rfl (ih (v2 + (1 : Int32)) m7 _ h)
      · rw [if_neg c] at h
        refine J.aload_n 0 d_M_byAnswers_21 rfl rfl ?_
        refine J.getF (n := 129) hG d_M_byAnswers_22 fl_M_72 ck_109_42 rfl ?_
        refine J.iload_n 2 d_M_byAnswers_25 rfl rfl ?_
        obtain ⟨x8, ex8, g, h⟩ := jld_some h
        refine J.zl hG d_M_byAnswers_26 g ex8 ?_
        refine J.if_eq 33 d_M_byAnswers_27 rfl (fun c => ?_) (fun c => ?_)
        · rw [if_pos c] at h
          refine J.aload_n 0 d_M_byAnswers_33 rfl rfl ?_
          refine J.iload_n 2 d_M_byAnswers_34 rfl rfl ?_
          refine J.aload_n 0 d_M_byAnswers_35 rfl rfl ?_
          refine J.getF (n := 125) hG d_M_byAnswers_36 fl_M_60 ck_109_38 rfl ?_
          refine J.iload_n 2 d_M_byAnswers_39 rfl rfl ?_
          obtain ⟨x9, ex9, g, h⟩ := jld_some h
          refine J.il hG d_M_byAnswers_40 g ex9 ?_
          refine J.iload_n 1 d_M_byAnswers_41 rfl rfl ?_
          obtain ⟨u10, m11, zm11, h⟩ := jbd_some h
          refine J.cVv Y_M_through (As := [.int v2, .int x9, .int v1]) (rest := []) hG d_M_byAnswers_42 mi_M_through mv_M_through lk_M_367 ⟨rfl, rfl, Nat.le_of_ble_eq_true rfl⟩ cq_109 cc_10 (c_M_through hG zm11) rfl (Nat.le_trans jcN (Nat.le_of_ble_eq_true rfl)) ?_
          refine J.nop (pc' := 45) rfl ?_
          refine J.aload_n 0 d_M_byAnswers_45 rfl rfl ?_
          refine J.iload_n 2 d_M_byAnswers_46 rfl rfl ?_
          refine J.aload_n 0 d_M_byAnswers_47 rfl rfl ?_
          refine J.getF (n := 126) hG d_M_byAnswers_48 fl_M_63 ck_109_39 rfl ?_
          refine J.iload_n 2 d_M_byAnswers_51 rfl rfl ?_
          obtain ⟨x12, ex12, g, h⟩ := jld_some h
          refine J.il hG d_M_byAnswers_52 g ex12 ?_
          refine J.iload_n 1 d_M_byAnswers_53 rfl rfl ?_
          obtain ⟨u13, m14, zm14, h⟩ := jbd_some h
          refine J.cVv Y_M_through (As := [.int v2, .int x12, .int v1]) (rest := []) hG d_M_byAnswers_54 mi_M_through mv_M_through lk_M_367 ⟨rfl, rfl, Nat.le_of_ble_eq_true rfl⟩ cq_109 cc_10 (c_M_through hG zm14) rfl (Nat.le_trans jcN (Nat.le_of_ble_eq_true rfl)) ?_
          refine J.nop (pc' := 57) rfl ?_
          refine J.iinc 2 (v := (1 : Int32)) (lv := [(2, .int (v2 + (1 : Int32))), (0, jr G 109), (1, .int v1)]) d_M_byAnswers_57 rfl ki_1 (by decide) rfl ?_
          refine J.goto 2 d_M_byAnswers_60 rfl ?_
          exact J.sub (ls' := [(0, jr G 109), (1, .int v1), (2, .int (v2 + (1 : Int32)))]) [1, 2, 0] rfl (ih (v2 + (1 : Int32)) m14 _ h)
        · rw [if_neg c] at h
          refine J.nop (pc' := 30) rfl ?_
          refine J.goto 57 d_M_byAnswers_30 rfl ?_
          refine J.iinc 2 (v := (1 : Int32)) (lv := [(2, .int (v2 + (1 : Int32))), (0, jr G 109), (1, .int v1)]) d_M_byAnswers_57 rfl ki_1 (by decide) rfl ?_
          refine J.goto 2 d_M_byAnswers_60 rfl ?_
          exact J.sub (ls' := [(0, jr G 109), (1, .int v1), (2, .int (v2 + (1 : Int32)))]) [1, 2, 0] rfl (ih (v2 + (1 : Int32)) m1 _ h)
theorem c_M_byAnswers {G : jG} (hG : jFul G) {v1 : Int32} {m : jMem} {r : (Unit × jMem)} (h : f_M_byAnswers v1 m = some r) : jCt G Y_M_byAnswers [jr G 109, .int v1] m (jrv r) := by
  refine jCt.ov (ls := [(0, jr G 109), (1, .int v1)]) mi_M_byAnswers (jAvR (jAvI jAvN)) (Nat.le_of_ble_eq_true rfl) ?_ ⟨rfl, rfl⟩
  unfold f_M_byAnswers at h
  refine J.iconst (v := (0 : Int32)) d_M_byAnswers_0 ki_0 ?_
  refine J.istore_n (lv := [(2, .int (0 : Int32)), (0, jr G 109), (1, .int v1)]) d_M_byAnswers_1 rfl (by decide) rfl ?_
  refine J.sub (ls' := [(0, jr G 109), (1, .int v1), (2, .int (0 : Int32))]) [1, 2, 0] rfl ?_
  refine jlp_M_byAnswers_2 hG v1 _ ?_ _ (0 : Int32) m _ h
  intro m15 r h
  cases h
  exact J.vret d_M_byAnswers_63 rfl rfl

def lp_M_byLists_25 (v1 : Int32) (v2 : Int32) (k60 : jMem → Option (Unit × jMem)) : Nat → Int32 → jMem → Option (Unit × jMem)
  | 0, _, _ => none
  | n + 1, v3, m =>
    if v1 ≤ v3 then
      k60 m
    else
      if ((v2 >>> (v3 &&& 31)) &&& (1 : Int32)) = (1 : Int32) then
        jld 1 m 141 v1 fun x4 =>
        jld 1 m 141 v3 fun x5 =>
        jst 1 m 141 v1 (x4 ||| x5) fun m6 =>
        lp_M_byLists_25 v1 v2 k60 n (v3 + (1 : Int32)) m6
      else
        lp_M_byLists_25 v1 v2 k60 n (v3 + (1 : Int32)) m
def lp_M_byLists_2 (k66 : jMem → Option (Unit × jMem)) : Nat → Int32 → jMem → Option (Unit × jMem)
  | 0, _, _ => none
  | n + 1, v1, m =>
    if (m 109 33) ≤ v1 then
      k66 m
    else
      jbd (f_M_listOf v1 m) fun x1 m2 =>
      jst 1 m2 141 v1 x1 fun m3 =>
      lp_M_byLists_25 v1 x1 (fun m7 =>
        lp_M_byLists_2 k66 n (v1 + (1 : Int32)) m7) 5000 (0 : Int32) m3
def f_M_byLists (m : jMem) : Option (Unit × jMem) :=
  lp_M_byLists_2 (fun m8 =>
    some ((), m8)) 5000 (0 : Int32) m
theorem jlp_M_byLists_25 {G : jG} (hG : jFul G) (v1 : Int32) (v2 : Int32) (k60 : jMem → Option (Unit × jMem))
    (hk60 : ∀ (m : jMem) (r : (Unit × jMem)), k60 m = some r → J G Y_M_byLists 60 [(0, jr G 109), (1, .int v1)] [] m (jrv r)) : ∀ (n : Nat) (v3 : Int32) (m : jMem) (r : (Unit × jMem)), lp_M_byLists_25 v1 v2 k60 n v3 m = some r → J G Y_M_byLists 25 [(0, jr G 109), (1, .int v1), (2, .int v2), (3, .int v3)] [] m (jrv r) := by
  intro n
  induction n with
  | zero => intro v3 m r h; unfold lp_M_byLists_25 at h; cases h
  | succ n ih =>
    intro v3 m r h
    unfold lp_M_byLists_25 at h
    refine J.iload_n 3 d_M_byLists_25 rfl rfl ?_
    refine J.iload_n 1 d_M_byLists_26 rfl rfl ?_
    refine J.icmp_ge 60 d_M_byLists_27 rfl (fun c => ?_) (fun c => ?_)
    · rw [if_pos c] at h
      exact J.sub (ls' := [(0, jr G 109), (1, .int v1)]) [0, 1] rfl (hk60  m _ h)
    · rw [if_neg c] at h
      refine J.iload_n 2 d_M_byLists_30 rfl rfl ?_
      refine J.iload_n 3 d_M_byLists_31 rfl rfl ?_
      refine J.ishr d_M_byLists_32 ?_
      refine J.iconst (v := (1 : Int32)) d_M_byLists_33 ki_1 ?_
      refine J.iand d_M_byLists_34 ?_
      refine J.nop (pc' := 35) rfl ?_
      refine J.iconst (v := (1 : Int32)) d_M_byLists_35 ki_1 ?_
      refine J.icmp_ne 54 d_M_byLists_36 rfl (fun c => ?_) (fun c => ?_)
      · rw [if_neg c] at h
        refine J.iinc 3 (v := (1 : Int32)) (lv := [(3, .int (v3 + (1 : Int32))), (0, jr G 109), (1, .int v1), (2, .int v2)]) d_M_byLists_54 rfl ki_1 (by decide) rfl ?_
        refine J.goto 25 d_M_byLists_57 rfl ?_
        exact J.sub (ls' := [(0, jr G 109), (1, .int v1), (2, .int v2), (3, .int (v3 + (1 : Int32)))]) [1, 2, 3, 0] rfl (ih (v3 + (1 : Int32)) m _ h)
      · rw [if_pos c] at h
        refine J.aload_n 0 d_M_byLists_39 rfl rfl ?_
        refine J.getF (n := 141) hG d_M_byLists_40 fl_M_108 ck_109_60 rfl ?_
        refine J.iload_n 1 d_M_byLists_43 rfl rfl ?_
        refine J.dup2 d_M_byLists_44 rfl (jr_cat _ _) ?_
        obtain ⟨x4, ex4, g, h⟩ := jld_some h
        refine J.il hG d_M_byLists_45 g ex4 ?_
        refine J.aload_n 0 d_M_byLists_46 rfl rfl ?_
        refine J.nop (pc' := 47) rfl ?_
        refine J.getF (n := 141) hG d_M_byLists_47 fl_M_108 ck_109_60 rfl ?_
        refine J.iload_n 3 d_M_byLists_50 rfl rfl ?_
        obtain ⟨x5, ex5, g, h⟩ := jld_some h
        refine J.il hG d_M_byLists_51 g ex5 ?_
        refine J.ior d_M_byLists_52 ?_
        obtain ⟨m6, hm6, g, h⟩ := jst_some h
        refine J.is hG d_M_byLists_53 g hm6 ?_
        refine J.iinc 3 (v := (1 : Int32)) (lv := [(3, .int (v3 + (1 : Int32))), (0, jr G 109), (1, .int v1), (2, .int v2)]) d_M_byLists_54 rfl ki_1 (by decide) rfl ?_
        refine J.goto 25 d_M_byLists_57 rfl ?_
        exact J.sub (ls' := [(0, jr G 109), (1, .int v1), (2, .int v2), (3, .int (v3 + (1 : Int32)))]) [1, 2, 3, 0] rfl (ih (v3 + (1 : Int32)) m6 _ h)
theorem jlp_M_byLists_2 {G : jG} (hG : jFul G) (k66 : jMem → Option (Unit × jMem))
    (hk66 : ∀ (m : jMem) (r : (Unit × jMem)), k66 m = some r → J G Y_M_byLists 66 [] [] m (jrv r)) : ∀ (n : Nat) (v1 : Int32) (m : jMem) (r : (Unit × jMem)), lp_M_byLists_2 k66 n v1 m = some r → J G Y_M_byLists 2 [(0, jr G 109), (1, .int v1)] [] m (jrv r) := by
  intro n
  induction n with
  | zero => intro v1 m r h; unfold lp_M_byLists_2 at h; cases h
  | succ n ih =>
    intro v1 m r h
    unfold lp_M_byLists_2 at h
    refine J.iload_n 1 d_M_byLists_2 rfl rfl ?_
    refine J.aload_n 0 d_M_byLists_3 rfl rfl ?_
    refine J.getI hG d_M_byLists_4 fl_M_277 ck_109_33 ?_
    refine J.icmp_ge 66 d_M_byLists_7 rfl (fun c => ?_) (fun c => ?_)
    · rw [if_pos c] at h
      exact J.sub (ls' := []) [] rfl (hk66  m _ h)
    · rw [if_neg c] at h
      refine J.aload_n 0 d_M_byLists_10 rfl rfl ?_
      refine J.iload_n 1 d_M_byLists_11 rfl rfl ?_
      obtain ⟨x1, m2, zm2, h⟩ := jbd_some h
      refine J.cVi Y_M_listOf (As := [.int v1]) (rest := []) hG d_M_byLists_12 mi_M_listOf mv_M_listOf lk_M_364 ⟨rfl, rfl, Nat.le_of_ble_eq_true rfl⟩ cq_109 cc_10 (c_M_listOf hG zm2) rfl (Nat.le_trans jcN (Nat.le_of_ble_eq_true rfl)) ?_
      refine J.istore_n (lv := [(2, .int x1), (0, jr G 109), (1, .int v1)]) d_M_byLists_15 rfl (by decide) rfl ?_
      refine J.nop (pc' := 16) rfl ?_
      refine J.aload_n 1 d_M_byLists_16 rfl rfl ?_
      refine J.getF (n := 141) hG d_M_byLists_17 fl_M_108 ck_109_60 rfl ?_
      refine J.iload_n 2 d_M_byLists_20 rfl rfl ?_
      refine J.iload_n 0 d_M_byLists_21 rfl rfl ?_
      obtain ⟨m3, hm3, g, h⟩ := jst_some h
      refine J.is hG d_M_byLists_22 g hm3 ?_
      refine J.iconst (v := (0 : Int32)) d_M_byLists_23 ki_0 ?_
      refine J.istore_n (lv := [(3, .int (0 : Int32)), (2, .int x1), (0, jr G 109), (1, .int v1)]) d_M_byLists_24 rfl (by decide) rfl ?_
      refine J.sub (ls' := [(0, jr G 109), (1, .int v1), (2, .int x1), (3, .int (0 : Int32))]) [2, 3, 1, 0] rfl ?_
      refine jlp_M_byLists_25 hG v1 x1 _ ?_ _ (0 : Int32) m3 _ h
      intro m7 r h
      refine J.iinc 1 (v := (1 : Int32)) (lv := [(1, .int (v1 + (1 : Int32))), (0, jr G 109)]) d_M_byLists_60 rfl ki_1 (by decide) rfl ?_
      refine J.goto 2 d_M_byLists_63 rfl ?_
      exact J.sub (ls' := [(0, jr G 109), (1, .int (v1 + (1 : Int32)))]) [1, 0] rfl (ih (v1 + (1 : Int32)) m7 _ h)
theorem c_M_byLists {G : jG} (hG : jFul G) {m : jMem} {r : (Unit × jMem)} (h : f_M_byLists m = some r) : jCt G Y_M_byLists [jr G 109] m (jrv r) := by
  refine jCt.ov (ls := [(0, jr G 109)]) mi_M_byLists (jAvR jAvN) (Nat.le_of_ble_eq_true rfl) ?_ ⟨rfl, rfl⟩
  unfold f_M_byLists at h
  refine J.iconst (v := (0 : Int32)) d_M_byLists_0 ki_0 ?_
  refine J.istore_n (lv := [(1, .int (0 : Int32)), (0, jr G 109)]) d_M_byLists_1 rfl (by decide) rfl ?_
  refine J.sub (ls' := [(0, jr G 109), (1, .int (0 : Int32))]) [1, 0] rfl ?_
  refine jlp_M_byLists_2 hG _ ?_ _ (0 : Int32) m _ h
  intro m8 r h
  cases h
  exact J.vret d_M_byLists_66 rfl rfl

def f_M_bears (v1 : Int32) (m : jMem) : Option (Unit × jMem) :=
  if v1 = 0 then
    jbd (f_M_byAnswers (0 : Int32) m) fun u3 m4 =>
    some ((), m4)
  else
    if v1 = (3 : Int32) then
      jbd (f_M_byLists m) fun u1 m2 =>
      some ((), m2)
    else
      some ((), m)
theorem c_M_bears {G : jG} (hG : jFul G) {v1 : Int32} {m : jMem} {r : (Unit × jMem)} (h : f_M_bears v1 m = some r) : jCt G Y_M_bears [jr G 109, .int v1] m (jrv r) := by
  refine jCt.ov (ls := [(0, jr G 109), (1, .int v1)]) mi_M_bears (jAvR (jAvI jAvN)) (Nat.le_of_ble_eq_true rfl) ?_ ⟨rfl, rfl⟩
  unfold f_M_bears at h
  refine J.iload_n 1 d_M_bears_0 rfl rfl ?_
  refine J.if_ne 12 d_M_bears_1 rfl (fun c => ?_) (fun c => ?_)
  · rw [if_neg c] at h
    refine J.iload_n 1 d_M_bears_12 rfl rfl ?_
    refine J.iconst (v := (3 : Int32)) d_M_bears_13 ki_3 ?_
    refine J.icmp_ne 21 d_M_bears_14 rfl (fun c => ?_) (fun c => ?_)
    · rw [if_neg c] at h
      cases h
      exact J.vret d_M_bears_21 rfl rfl
    · rw [if_pos c] at h
      refine J.aload_n 0 d_M_bears_17 rfl rfl ?_
      obtain ⟨u1, m2, zm2, h⟩ := jbd_some h
      refine J.cVv Y_M_byLists (As := []) (rest := []) hG d_M_bears_18 mi_M_byLists mv_M_byLists lk_M_374 ⟨rfl, rfl, Nat.le_of_ble_eq_true rfl⟩ cq_109 cc_10 (c_M_byLists hG zm2) rfl (Nat.le_trans jcN (Nat.le_of_ble_eq_true rfl)) ?_
      cases h
      exact J.vret d_M_bears_21 rfl rfl
  · rw [if_pos c] at h
    refine J.aload_n 0 d_M_bears_4 rfl rfl ?_
    refine J.iconst (v := (0 : Int32)) d_M_bears_5 ki_0 ?_
    obtain ⟨u3, m4, zm4, h⟩ := jbd_some h
    refine J.cVv Y_M_byAnswers (As := [.int (0 : Int32)]) (rest := []) hG d_M_bears_6 mi_M_byAnswers mv_M_byAnswers lk_M_371 ⟨rfl, rfl, Nat.le_of_ble_eq_true rfl⟩ cq_109 cc_10 (c_M_byAnswers hG zm4) rfl (Nat.le_trans jcN (Nat.le_of_ble_eq_true rfl)) ?_
    refine J.goto 21 d_M_bears_9 rfl ?_
    cases h
    exact J.vret d_M_bears_21 rfl rfl

def f_M_isTold (v1 : Int32) (v2 : Int32) (v3 : Int32) (m : jMem) : Option (Int32 × jMem) :=
  if v3 = (1 : Int32) then
    jbd (f_M_sumOf v1 m) fun x8 m9 =>
    jbd (f_M_sumOf v2 m9) fun x10 m11 =>
    if x10 ≤ x8 then
      some ((0 : Int32), m11)
    else
      some ((1 : Int32), m11)
  else
    if v3 = (2 : Int32) then
      jld 1 m 121 v1 fun x2 =>
      jbd (f_M_numberOf v2 x2 m) fun x3 m4 =>
      jld 1 m4 121 v1 fun x5 =>
      jbd (f_M_numberOf v1 x5 m4) fun x6 m7 =>
      if x3 < x6 then
        some ((0 : Int32), m7)
      else
        some ((1 : Int32), m7)
    else
      jld 1 m 141 v2 fun x1 =>
      if ((x1 >>> (v1 &&& 31)) &&& (1 : Int32)) = (1 : Int32) then
        some ((1 : Int32), m)
      else
        some ((0 : Int32), m)
theorem c_M_isTold {G : jG} (hG : jFul G) {v1 : Int32} {v2 : Int32} {v3 : Int32} {m : jMem} {r : (Int32 × jMem)} (h : f_M_isTold v1 v2 v3 m = some r) : jCt G Y_M_isTold [jr G 109, .int v1, .int v2, .int v3] m (jri r) := by
  refine jCt.ov (ls := [(0, jr G 109), (1, .int v1), (2, .int v2), (3, .int v3)]) mi_M_isTold (jAvR (jAvI (jAvI (jAvI jAvN)))) (Nat.le_of_ble_eq_true rfl) ?_ ⟨rfl, rfl⟩
  unfold f_M_isTold at h
  refine J.iload_n 3 d_M_isTold_0 rfl rfl ?_
  refine J.iconst (v := (1 : Int32)) d_M_isTold_1 ki_1 ?_
  refine J.icmp_ne 24 d_M_isTold_2 rfl (fun c => ?_) (fun c => ?_)
  · rw [if_neg c] at h
    refine J.iload_n 3 d_M_isTold_24 rfl rfl ?_
    refine J.iconst (v := (2 : Int32)) d_M_isTold_25 ki_2 ?_
    refine J.icmp_ne 60 d_M_isTold_26 rfl (fun c => ?_) (fun c => ?_)
    · rw [if_neg c] at h
      refine J.aload_n 0 d_M_isTold_60 rfl rfl ?_
      refine J.getF (n := 141) hG d_M_isTold_61 fl_M_108 ck_109_60 rfl ?_
      refine J.iload_n 2 d_M_isTold_64 rfl rfl ?_
      obtain ⟨x1, ex1, g, h⟩ := jld_some h
      refine J.il hG d_M_isTold_65 g ex1 ?_
      refine J.iload_n 1 d_M_isTold_66 rfl rfl ?_
      refine J.ishr d_M_isTold_67 ?_
      refine J.iconst (v := (1 : Int32)) d_M_isTold_68 ki_1 ?_
      refine J.iand d_M_isTold_69 ?_
      refine J.nop (pc' := 70) rfl ?_
      refine J.iconst (v := (1 : Int32)) d_M_isTold_70 ki_1 ?_
      refine J.icmp_ne 78 d_M_isTold_71 rfl (fun c => ?_) (fun c => ?_)
      · rw [if_neg c] at h
        refine J.iconst (v := (0 : Int32)) d_M_isTold_78 ki_0 ?_
        cases h
        exact J.iret d_M_isTold_79 rfl rfl rfl
      · rw [if_pos c] at h
        refine J.iconst (v := (1 : Int32)) d_M_isTold_74 ki_1 ?_
        refine J.goto 79 d_M_isTold_75 rfl ?_
        cases h
        exact J.iret d_M_isTold_79 rfl rfl rfl
    · rw [if_pos c] at h
      refine J.aload_n 0 d_M_isTold_29 rfl rfl ?_
      refine J.iload_n 2 d_M_isTold_30 rfl rfl ?_
      refine J.aload_n 0 d_M_isTold_31 rfl rfl ?_
      refine J.getF (n := 121) hG d_M_isTold_32 fl_M_48 ck_109_34 rfl ?_
      refine J.iload_n 1 d_M_isTold_35 rfl rfl ?_
      refine J.nop (pc' := 36) rfl ?_
      obtain ⟨x2, ex2, g, h⟩ := jld_some h
      refine J.il hG d_M_isTold_36 g ex2 ?_
      obtain ⟨x3, m4, zm4, h⟩ := jbd_some h
      refine J.cVi Y_M_numberOf (As := [.int v2, .int x2]) (rest := []) hG d_M_isTold_37 mi_M_numberOf mv_M_numberOf lk_M_361 ⟨rfl, rfl, Nat.le_of_ble_eq_true rfl⟩ cq_109 cc_10 (c_M_numberOf hG zm4) rfl (Nat.le_trans jcN (Nat.le_of_ble_eq_true rfl)) ?_
      refine J.aload_n 0 d_M_isTold_40 rfl rfl ?_
      refine J.iload_n 1 d_M_isTold_41 rfl rfl ?_
      refine J.aload_n 0 d_M_isTold_42 rfl rfl ?_
      refine J.getF (n := 121) hG d_M_isTold_43 fl_M_48 ck_109_34 rfl ?_
      refine J.iload_n 1 d_M_isTold_46 rfl rfl ?_
      obtain ⟨x5, ex5, g, h⟩ := jld_some h
      refine J.il hG d_M_isTold_47 g ex5 ?_
      refine J.nop (pc' := 48) rfl ?_
      obtain ⟨x6, m7, zm7, h⟩ := jbd_some h
      refine J.cVi Y_M_numberOf (As := [.int v1, .int x5]) (rest := [.int x3]) hG d_M_isTold_48 mi_M_numberOf mv_M_numberOf lk_M_361 ⟨rfl, rfl, Nat.le_of_ble_eq_true rfl⟩ cq_109 cc_10 (c_M_numberOf hG zm7) rfl (Nat.le_trans (jcI jcN) (Nat.le_of_ble_eq_true rfl)) ?_
      refine J.icmp_lt 58 d_M_isTold_51 rfl (fun c => ?_) (fun c => ?_)
      · rw [if_pos c] at h
        refine J.iconst (v := (0 : Int32)) d_M_isTold_58 ki_0 ?_
        cases h
        exact J.iret d_M_isTold_59 rfl rfl rfl
      · rw [if_neg c] at h
        refine J.iconst (v := (1 : Int32)) d_M_isTold_54 ki_1 ?_
        refine J.goto 59 d_M_isTold_55 rfl ?_
        cases h
        exact J.iret d_M_isTold_59 rfl rfl rfl
  · rw [if_pos c] at h
    refine J.aload_n 0 d_M_isTold_5 rfl rfl ?_
    refine J.iload_n 1 d_M_isTold_6 rfl rfl ?_
    obtain ⟨x8, m9, zm9, h⟩ := jbd_some h
    refine J.cVi Y_M_sumOf (As := [.int v1]) (rest := []) hG d_M_isTold_7 mi_M_sumOf mv_M_sumOf lk_M_335 ⟨rfl, rfl, Nat.le_of_ble_eq_true rfl⟩ cq_109 cc_10 (c_M_sumOf hG zm9) rfl (Nat.le_trans jcN (Nat.le_of_ble_eq_true rfl)) ?_
    refine J.aload_n 0 d_M_isTold_10 rfl rfl ?_
    refine J.iload_n 2 d_M_isTold_11 rfl rfl ?_
    refine J.nop (pc' := 12) rfl ?_
    obtain ⟨x10, m11, zm11, h⟩ := jbd_some h
    refine J.cVi Y_M_sumOf (As := [.int v2]) (rest := [.int x8]) hG d_M_isTold_12 mi_M_sumOf mv_M_sumOf lk_M_335 ⟨rfl, rfl, Nat.le_of_ble_eq_true rfl⟩ cq_109 cc_10 (c_M_sumOf hG zm11) rfl (Nat.le_trans (jcI jcN) (Nat.le_of_ble_eq_true rfl)) ?_
    refine J.icmp_ge 22 d_M_isTold_15 rfl (fun c => ?_) (fun c => ?_)
    · rw [if_pos c] at h
      refine J.iconst (v := (0 : Int32)) d_M_isTold_22 ki_0 ?_
      cases h
      exact J.iret d_M_isTold_23 rfl rfl rfl
    · rw [if_neg c] at h
      refine J.iconst (v := (1 : Int32)) d_M_isTold_18 ki_1 ?_
      refine J.goto 23 d_M_isTold_19 rfl ?_
      cases h
      exact J.iret d_M_isTold_23 rfl rfl rfl
