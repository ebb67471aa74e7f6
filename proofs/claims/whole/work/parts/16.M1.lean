def f_M_thrown (m : jMem) : Option (Int32 × jMem) :=
  some ((m 109 0), m)
theorem c_M_thrown {G : jG} (hG : jFul G) {m : jMem} {r : (Int32 × jMem)} (h : f_M_thrown m = some r) : jCt G Y_M_thrown [jr G 109] m (jri r) := by
  refine jCt.ov (ls := [(0, jr G 109)]) mi_M_thrown (jAvR jAvN) (Nat.le_of_ble_eq_true rfl) ?_ ⟨rfl, rfl⟩
  unfold f_M_thrown at h
  refine J.aload_n 0 d_M_thrown_0 rfl rfl ?_
  refine J.getI hG d_M_thrown_1 fl_M_132 ck_109_0 ?_
  cases h
  exact J.iret d_M_thrown_4 rfl (vp_nar_int _) rfl

def lp_M_feed_20 (v1 : Int32) (v2 : Int32) (v3 : Int32) (v4 : Int32) (v5 : Int32) (k110 : jMem → Option (Int32 × jMem)) : Nat → Int32 → jMem → Option (Int32 × jMem)
  | 0, _, _ => none
  | n + 1, v6, m =>
    if (20 : Int32) ≤ v6 then
      k110 m
    else
      if (4 : Int32) ≤ v6 then
        if (8 : Int32) ≤ v6 then
          if (12 : Int32) ≤ v6 then
            if (16 : Int32) ≤ v6 then
              jst 1 m 110 ((m 109 2) + v6) ((v5 >>> (((24 : Int32) - ((8 : Int32) * (v6 - v6 / (4 : Int32) * (4 : Int32)))) &&& 31)) &&& (255 : Int32)) fun m2 =>
              lp_M_feed_20 v1 v2 v3 v4 v5 k110 n (v6 + (1 : Int32)) m2
            else
              jst 1 m 110 ((m 109 2) + v6) ((v4 >>> (((24 : Int32) - ((8 : Int32) * (v6 - v6 / (4 : Int32) * (4 : Int32)))) &&& 31)) &&& (255 : Int32)) fun m3 =>
              lp_M_feed_20 v1 v2 v3 v4 v5 k110 n (v6 + (1 : Int32)) m3
          else
            jst 1 m 110 ((m 109 2) + v6) ((v3 >>> (((24 : Int32) - ((8 : Int32) * (v6 - v6 / (4 : Int32) * (4 : Int32)))) &&& 31)) &&& (255 : Int32)) fun m4 =>
            lp_M_feed_20 v1 v2 v3 v4 v5 k110 n (v6 + (1 : Int32)) m4
        else
          jst 1 m 110 ((m 109 2) + v6) ((v2 >>> (((24 : Int32) - ((8 : Int32) * (v6 - v6 / (4 : Int32) * (4 : Int32)))) &&& 31)) &&& (255 : Int32)) fun m5 =>
          lp_M_feed_20 v1 v2 v3 v4 v5 k110 n (v6 + (1 : Int32)) m5
      else
        jst 1 m 110 ((m 109 2) + v6) ((v1 >>> (((24 : Int32) - ((8 : Int32) * (v6 - v6 / (4 : Int32) * (4 : Int32)))) &&& 31)) &&& (255 : Int32)) fun m6 =>
        lp_M_feed_20 v1 v2 v3 v4 v5 k110 n (v6 + (1 : Int32)) m6
def f_M_feed (v1 : Int32) (v2 : Int32) (v3 : Int32) (v4 : Int32) (v5 : Int32) (m : jMem) : Option (Int32 × jMem) :=
  jpu m 109 0 (0 : Int32) fun m1 =>
  if (m1 109 2) ≤ (380 : Int32) then
    lp_M_feed_20 v1 v2 v3 v4 v5 (fun m7 =>
      jpu m7 109 2 ((m7 109 2) + (20 : Int32)) fun m8 =>
      some ((m8 109 2), m8)) 5000 (0 : Int32) m1
  else
    some ((-1 : Int32), m1)
theorem jlp_M_feed_20 {G : jG} (hG : jFul G) (v1 : Int32) (v2 : Int32) (v3 : Int32) (v4 : Int32) (v5 : Int32) (k110 : jMem → Option (Int32 × jMem))
    (hk110 : ∀ (m : jMem) (r : (Int32 × jMem)), k110 m = some r → J G Y_M_feed 110 [(0, jr G 109)] [] m (jri r)) : ∀ (n : Nat) (v6 : Int32) (m : jMem) (r : (Int32 × jMem)), lp_M_feed_20 v1 v2 v3 v4 v5 k110 n v6 m = some r → J G Y_M_feed 20 [(0, jr G 109), (1, .int v1), (2, .int v2), (3, .int v3), (4, .int v4), (5, .int v5), (6, .int v6)] [] m (jri r) := by
  intro n
  induction n with
  | zero => intro v6 m r h; unfold lp_M_feed_20 at h; cases h
  | succ n ih =>
    intro v6 m r h
    unfold lp_M_feed_20 at h
    refine J.iload 6 d_M_feed_20 rfl ?_
    refine J.bipush (v := (20 : Int32)) d_M_feed_22 kb_20 ?_
    refine J.icmp_ge 110 d_M_feed_24 rfl (fun c => ?_) (fun c => ?_)
    · rw [if_pos c] at h
      exact J.sub (ls' := [(0, jr G 109)]) [0] rfl (hk110  m _ h)
    · rw [if_neg c] at h
      refine J.iload 6 d_M_feed_27 rfl ?_
      refine J.iconst (v := (4 : Int32)) d_M_feed_29 ki_4 ?_
      refine J.icmp_ge 37 d_M_feed_30 rfl (fun c => ?_) (fun c => ?_)
      · rw [if_pos c] at h
        refine J.iload 6 d_M_feed_37 rfl ?_
        refine J.bipush (v := (8 : Int32)) d_M_feed_39 kb_8 ?_
        refine J.icmp_ge 48 d_M_feed_41 rfl (fun c => ?_) (fun c => ?_)
        · rw [if_pos c] at h
          refine J.iload 6 d_M_feed_48 rfl ?_
          refine J.bipush (v := (12 : Int32)) d_M_feed_50 kb_12 ?_
          refine J.icmp_ge 59 d_M_feed_52 rfl (fun c => ?_) (fun c => ?_)
          · rw [if_pos c] at h
            refine J.iload 6 d_M_feed_59 rfl ?_
            refine J.bipush (v := (16 : Int32)) d_M_feed_61 kb_16 ?_
            refine J.icmp_ge 71 d_M_feed_63 rfl (fun c => ?_) (fun c => ?_)
            · rw [if_pos c] at h
              refine J.iload 5 d_M_feed_71 rfl ?_
              refine J.istore (lv := [(7, .int v5), (0, jr G 109), (1, .int v1), (2, .int v2), (3, .int v3), (4, .int v4), (5, .int v5), (6, .int v6)]) d_M_feed_73 (by decide) rfl ?_
              refine J.aload_n 1 d_M_feed_75 rfl rfl ?_
              refine J.getF (n := 110) hG d_M_feed_76 fl_M_7 ck_109_1 rfl ?_
              refine J.aload_n 1 d_M_feed_79 rfl rfl ?_
              refine J.getI hG d_M_feed_80 fl_M_135 ck_109_2 ?_
              refine J.iload 7 d_M_feed_83 rfl ?_
              refine J.iadd d_M_feed_85 ?_
              refine J.nop (pc' := 86) rfl ?_
              refine J.iload 0 d_M_feed_86 rfl ?_
              refine J.bipush (v := (24 : Int32)) d_M_feed_88 kb_24 ?_
              refine J.bipush (v := (8 : Int32)) d_M_feed_90 kb_8 ?_
              refine J.iload 7 d_M_feed_92 rfl ?_
              refine J.iconst (v := (4 : Int32)) d_M_feed_94 ki_4 ?_
              refine J.irem d_M_feed_95 (by decide) ?_
              refine J.imul d_M_feed_96 ?_
              refine J.isub d_M_feed_97 ?_
              refine J.nop (pc' := 98) rfl ?_
              refine J.ishr d_M_feed_98 ?_
              refine J.sipush (v := (255 : Int32)) d_M_feed_99 ks_255 ?_
              refine J.iand d_M_feed_102 ?_
              obtain ⟨m2, hm2, g, h⟩ := jst_some h
              refine J.is hG d_M_feed_103 g hm2 ?_
              refine J.iinc 7 (v := (1 : Int32)) (lv := [(6, .int (v6 + (1 : Int32))), (7, .int v5), (0, jr G 109), (1, .int v1), (2, .int v2), (3, .int v3), (4, .int v4), (5, .int v5)]) d_M_feed_104 rfl ki_1 (by decide) rfl ?_
              refine J.goto 20 d_M_feed_107 rfl ?_
              exact J.sub (ls' := [(0, jr G 109), (1, .int v1), (2, .int v2), (3, .int v3), (4, .int v4), (5, .int v5), (6, .int (v6 + (1 : Int32)))]) [2, 3, 4, 5, 6, 7, 0] rfl (ih (v6 + (1 : Int32)) m2 _ h)
            · rw [if_neg c] at h
              refine J.iload 4 d_M_feed_66 rfl ?_
              refine J.goto 73 d_M_feed_68 rfl ?_
              refine J.istore (lv := [(7, .int v4), (0, jr G 109), (1, .int v1), (2, .int v2), (3, .int v3), (4, .int v4), (5, .int v5), (6, .int v6)]) d_M_feed_73 (by decide) rfl ?_
              refine J.aload_n 1 d_M_feed_75 rfl rfl ?_
              refine J.getF (n := 110) hG d_M_feed_76 fl_M_7 ck_109_1 rfl ?_
              refine J.aload_n 1 d_M_feed_79 rfl rfl ?_
              refine J.getI hG d_M_feed_80 fl_M_135 ck_109_2 ?_
              refine J.iload 7 d_M_feed_83 rfl ?_
              refine J.iadd d_M_feed_85 ?_
              refine J.iload 0 d_M_feed_86 rfl ?_
              refine J.nop (pc' := 88) rfl ?_
              refine J.bipush (v := (24 : Int32)) d_M_feed_88 kb_24 ?_
              refine J.bipush (v := (8 : Int32)) d_M_feed_90 kb_8 ?_
              refine J.iload 7 d_M_feed_92 rfl ?_
              refine J.iconst (v := (4 : Int32)) d_M_feed_94 ki_4 ?_
              refine J.irem d_M_feed_95 (by decide) ?_
              refine J.imul d_M_feed_96 ?_
              refine J.isub d_M_feed_97 ?_
              refine J.ishr d_M_feed_98 ?_
              refine J.nop (pc' := 99) rfl ?_
              refine J.sipush (v := (255 : Int32)) d_M_feed_99 ks_255 ?_
              refine J.iand d_M_feed_102 ?_
              obtain ⟨m3, hm3, g, h⟩ := jst_some h
              refine J.is hG d_M_feed_103 g hm3 ?_
              refine J.iinc 7 (v := (1 : Int32)) (lv := [(6, .int (v6 + (1 : Int32))), (7, .int v4), (0, jr G 109), (1, .int v1), (2, .int v2), (3, .int v3), (4, .int v4), (5, .int v5)]) d_M_feed_104 rfl ki_1 (by decide) rfl ?_
              refine J.goto 20 d_M_feed_107 rfl ?_
              exact J.sub (ls' := [(0, jr G 109), (1, .int v1), (2, .int v2), (3, .int v3), (4, .int v4), (5, .int v5), (6, .int (v6 + (1 : Int32)))]) [2, 3, 4, 5, 6, 7, 0] rfl (ih (v6 + (1 : Int32)) m3 _ h)
          · rw [if_neg c] at h
            refine J.iload_n 3 d_M_feed_55 rfl rfl ?_
            refine J.goto 73 d_M_feed_56 rfl ?_
            refine J.istore (lv := [(7, .int v3), (0, jr G 109), (1, .int v1), (2, .int v2), (3, .int v3), (4, .int v4), (5, .int v5), (6, .int v6)]) d_M_feed_73 (by decide) rfl ?_
            refine J.aload_n 1 d_M_feed_75 rfl rfl ?_
            refine J.getF (n := 110) hG d_M_feed_76 fl_M_7 ck_109_1 rfl ?_
            refine J.aload_n 1 d_M_feed_79 rfl rfl ?_
            refine J.getI hG d_M_feed_80 fl_M_135 ck_109_2 ?_
            refine J.iload 7 d_M_feed_83 rfl ?_
            refine J.iadd d_M_feed_85 ?_
            refine J.iload 0 d_M_feed_86 rfl ?_
            refine J.nop (pc' := 88) rfl ?_
            refine J.bipush (v := (24 : Int32)) d_M_feed_88 kb_24 ?_
            refine J.bipush (v := (8 : Int32)) d_M_feed_90 kb_8 ?_
            refine J.iload 7 d_M_feed_92 rfl ?_
            refine J.iconst (v := (4 : Int32)) d_M_feed_94 ki_4 ?_
            refine J.irem d_M_feed_95 (by decide) ?_
            refine J.imul d_M_feed_96 ?_
            refine J.isub d_M_feed_97 ?_
            refine J.ishr d_M_feed_98 ?_
            refine J.nop (pc' := 99) rfl ?_
            refine J.sipush (v := (255 : Int32)) d_M_feed_99 ks_255 ?_
            refine J.iand d_M_feed_102 ?_
            obtain ⟨m4, hm4, g, h⟩ := jst_some h
            refine J.is hG d_M_feed_103 g hm4 ?_
            refine J.iinc 7 (v := (1 : Int32)) (lv := [(6, .int (v6 + (1 : Int32))), (7, .int v3), (0, jr G 109), (1, .int v1), (2, .int v2), (3, .int v3), (4, .int v4), (5, .int v5)]) d_M_feed_104 rfl ki_1 (by decide) rfl ?_
            refine J.goto 20 d_M_feed_107 rfl ?_
            exact J.sub (ls' := [(0, jr G 109), (1, .int v1), (2, .int v2), (3, .int v3), (4, .int v4), (5, .int v5), (6, .int (v6 + (1 : Int32)))]) [2, 3, 4, 5, 6, 7, 0] rfl (ih (v6 + (1 : Int32)) m4 _ h)
        · rw [if_neg c] at h
          refine J.iload_n 2 d_M_feed_44 rfl rfl ?_
          refine J.goto 73 d_M_feed_45 rfl ?_
          refine J.istore (lv := [(7, .int v2), (0, jr G 109), (1, .int v1), (2, .int v2), (3, .int v3), (4, .int v4), (5, .int v5), (6, .int v6)]) d_M_feed_73 (by decide) rfl ?_
          refine J.aload_n 1 d_M_feed_75 rfl rfl ?_
          refine J.getF (n := 110) hG d_M_feed_76 fl_M_7 ck_109_1 rfl ?_
          refine J.aload_n 1 d_M_feed_79 rfl rfl ?_
          refine J.getI hG d_M_feed_80 fl_M_135 ck_109_2 ?_
          refine J.iload 7 d_M_feed_83 rfl ?_
          refine J.iadd d_M_feed_85 ?_
          refine J.iload 0 d_M_feed_86 rfl ?_
          refine J.nop (pc' := 88) rfl ?_
          refine J.bipush (v := (24 : Int32)) d_M_feed_88 kb_24 ?_
          refine J.bipush (v := (8 : Int32)) d_M_feed_90 kb_8 ?_
          refine J.iload 7 d_M_feed_92 rfl ?_
          refine J.iconst (v := (4 : Int32)) d_M_feed_94 ki_4 ?_
          refine J.irem d_M_feed_95 (by decide) ?_
          refine J.imul d_M_feed_96 ?_
          refine J.isub d_M_feed_97 ?_
          refine J.ishr d_M_feed_98 ?_
          refine J.nop (pc' := 99) rfl ?_
          refine J.sipush (v := (255 : Int32)) d_M_feed_99 ks_255 ?_
          refine J.iand d_M_feed_102 ?_
          obtain ⟨m5, hm5, g, h⟩ := jst_some h
          refine J.is hG d_M_feed_103 g hm5 ?_
          refine J.iinc 7 (v := (1 : Int32)) (lv := [(6, .int (v6 + (1 : Int32))), (7, .int v2), (0, jr G 109), (1, .int v1), (2, .int v2), (3, .int v3), (4, .int v4), (5, .int v5)]) d_M_feed_104 rfl ki_1 (by decide) rfl ?_
          refine J.goto 20 d_M_feed_107 rfl ?_
          exact J.sub (ls' := [(0, jr G 109), (1, .int v1), (2, .int v2), (3, .int v3), (4, .int v4), (5, .int v5), (6, .int (v6 + (1 : Int32)))]) [2, 3, 4, 5, 6, 7, 0] rfl (ih (v6 + (1 : Int32)) m5 _ h)
      · rw [if_neg c] at h
        refine J.iload_n 1 d_M_feed_33 rfl rfl ?_
        refine J.goto 73 d_M_feed_34 rfl ?_
        refine J.istore (lv := [(7, .int v1), (0, jr G 109), (1, .int v1), (2, .int v2), (3, .int v3), (4, .int v4), (5, .int v5), (6, .int v6)]) d_M_feed_73 (by decide) rfl ?_
        refine J.aload_n 1 d_M_feed_75 rfl rfl ?_
        refine J.getF (n := 110) hG d_M_feed_76 fl_M_7 ck_109_1 rfl ?_
        refine J.aload_n 1 d_M_feed_79 rfl rfl ?_
        refine J.getI hG d_M_feed_80 fl_M_135 ck_109_2 ?_
        refine J.iload 7 d_M_feed_83 rfl ?_
        refine J.iadd d_M_feed_85 ?_
        refine J.iload 0 d_M_feed_86 rfl ?_
        refine J.nop (pc' := 88) rfl ?_
        refine J.bipush (v := (24 : Int32)) d_M_feed_88 kb_24 ?_
        refine J.bipush (v := (8 : Int32)) d_M_feed_90 kb_8 ?_
        refine J.iload 7 d_M_feed_92 rfl ?_
        refine J.iconst (v := (4 : Int32)) d_M_feed_94 ki_4 ?_
        refine J.irem d_M_feed_95 (by decide) ?_
        refine J.imul d_M_feed_96 ?_
        refine J.isub d_M_feed_97 ?_
        refine J.ishr d_M_feed_98 ?_
        refine J.nop (pc' := 99) rfl ?_
        refine J.sipush (v := (255 : Int32)) d_M_feed_99 ks_255 ?_
        refine J.iand d_M_feed_102 ?_
        obtain ⟨m6, hm6, g, h⟩ := jst_some h
        refine J.is hG d_M_feed_103 g hm6 ?_
        refine J.iinc 7 (v := (1 : Int32)) (lv := [(6, .int (v6 + (1 : Int32))), (7, .int v1), (0, jr G 109), (1, .int v1), (2, .int v2), (3, .int v3), (4, .int v4), (5, .int v5)]) d_M_feed_104 rfl ki_1 (by decide) rfl ?_
        refine J.goto 20 d_M_feed_107 rfl ?_
        exact J.sub (ls' := [(0, jr G 109), (1, .int v1), (2, .int v2), (3, .int v3), (4, .int v4), (5, .int v5), (6, .int (v6 + (1 : Int32)))]) [2, 3, 4, 5, 6, 7, 0] rfl (ih (v6 + (1 : Int32)) m6 _ h)
theorem c_M_feed {G : jG} (hG : jFul G) {v1 : Int32} {v2 : Int32} {v3 : Int32} {v4 : Int32} {v5 : Int32} {m : jMem} {r : (Int32 × jMem)} (h : f_M_feed v1 v2 v3 v4 v5 m = some r) : jCt G Y_M_feed [jr G 109, .int v1, .int v2, .int v3, .int v4, .int v5] m (jri r) := by
  refine jCt.ov (ls := [(0, jr G 109), (1, .int v1), (2, .int v2), (3, .int v3), (4, .int v4), (5, .int v5)]) mi_M_feed (jAvR (jAvI (jAvI (jAvI (jAvI (jAvI jAvN)))))) (Nat.le_of_ble_eq_true rfl) ?_ ⟨rfl, rfl⟩
  unfold f_M_feed at h
  refine J.aload_n 0 d_M_feed_0 rfl rfl ?_
  refine J.iconst (v := (0 : Int32)) d_M_feed_1 ki_0 ?_
  obtain ⟨m1, hm1, h⟩ := jpu_some h
  refine J.putI hG d_M_feed_2 fl_M_132 fp_10_0 ck_109_0 hm1 ?_
  refine J.aload_n 0 d_M_feed_5 rfl rfl ?_
  refine J.getI hG d_M_feed_6 fl_M_135 ck_109_2 ?_
  refine J.sipush (v := (380 : Int32)) d_M_feed_9 ks_380 ?_
  refine J.icmp_le 17 d_M_feed_12 rfl (fun c => ?_) (fun c => ?_)
  · rw [if_pos c] at h
    refine J.iconst (v := (0 : Int32)) d_M_feed_17 ki_0 ?_
    refine J.istore (lv := [(6, .int (0 : Int32)), (0, jr G 109), (1, .int v1), (2, .int v2), (3, .int v3), (4, .int v4), (5, .int v5)]) d_M_feed_18 (by decide) rfl ?_
    refine J.sub (ls' := [(0, jr G 109), (1, .int v1), (2, .int v2), (3, .int v3), (4, .int v4), (5, .int v5), (6, .int (0 : Int32))]) [1, 2, 3, 4, 5, 6, 0] rfl ?_
    refine jlp_M_feed_20 hG v1 v2 v3 v4 v5 _ ?_ _ (0 : Int32) m1 _ h
    intro m7 r h
    refine J.aload_n 0 d_M_feed_110 rfl rfl ?_
    refine J.dup d_M_feed_111 (jr_cat _ _) ?_
    refine J.getI hG d_M_feed_112 fl_M_135 ck_109_2 ?_
    refine J.bipush (v := (20 : Int32)) d_M_feed_115 kb_20 ?_
    refine J.iadd d_M_feed_117 ?_
    obtain ⟨m8, hm8, h⟩ := jpu_some h
    refine J.putI hG d_M_feed_118 fl_M_135 fp_10_2 ck_109_2 hm8 ?_
    refine J.aload_n 0 d_M_feed_121 rfl rfl ?_
    refine J.getI hG d_M_feed_122 fl_M_135 ck_109_2 ?_
    refine J.nop (pc' := 125) rfl ?_
    cases h
    exact J.iret d_M_feed_125 rfl (vp_nar_int _) rfl
  · rw [if_neg c] at h
    refine J.iconst (v := (-1 : Int32)) d_M_feed_15 ki_m1 ?_
    refine J.nop (pc' := 16) rfl ?_
    cases h
    exact J.iret d_M_feed_16 rfl (vp_nar_int _) rfl

def f_M_here (m : jMem) : Option (Int32 × jMem) :=
  if (m 109 16) ≤ (m 109 17) then
    some ((-1 : Int32), m)
  else
    jld 1 m 110 (m 109 17) fun x1 =>
    some (x1, m)
theorem c_M_here {G : jG} (hG : jFul G) {m : jMem} {r : (Int32 × jMem)} (h : f_M_here m = some r) : jCt G Y_M_here [jr G 109] m (jri r) := by
  refine jCt.ov (ls := [(0, jr G 109)]) mi_M_here (jAvR jAvN) (Nat.le_of_ble_eq_true rfl) ?_ ⟨rfl, rfl⟩
  unfold f_M_here at h
  refine J.aload_n 0 d_M_here_0 rfl rfl ?_
  refine J.getI hG d_M_here_1 fl_M_138 ck_109_17 ?_
  refine J.aload_n 0 d_M_here_4 rfl rfl ?_
  refine J.getI hG d_M_here_5 fl_M_141 ck_109_16 ?_
  refine J.icmp_ge 23 d_M_here_8 rfl (fun c => ?_) (fun c => ?_)
  · rw [if_pos c] at h
    refine J.iconst (v := (-1 : Int32)) d_M_here_23 ki_m1 ?_
    cases h
    exact J.iret d_M_here_24 rfl (vp_nar_int _) rfl
  · rw [if_neg c] at h
    refine J.aload_n 0 d_M_here_11 rfl rfl ?_
    refine J.getF (n := 110) hG d_M_here_12 fl_M_7 ck_109_1 rfl ?_
    refine J.aload_n 0 d_M_here_15 rfl rfl ?_
    refine J.nop (pc' := 16) rfl ?_
    refine J.getI hG d_M_here_16 fl_M_138 ck_109_17 ?_
    obtain ⟨x1, ex1, g, h⟩ := jld_some h
    refine J.il hG d_M_here_19 g ex1 ?_
    refine J.goto 24 d_M_here_20 rfl ?_
    cases h
    exact J.iret d_M_here_24 rfl (vp_nar_int _) rfl

def f_M_isSmall (v0 : Int32) (m : jMem) : Option (Int32 × jMem) :=
  if v0 < (97 : Int32) then
    some ((0 : Int32), m)
  else
    if (122 : Int32) < v0 then
      some ((0 : Int32), m)
    else
      some ((1 : Int32), m)
theorem c_M_isSmall {G : jG} (hG : jFul G) {v0 : Int32} {m : jMem} {r : (Int32 × jMem)} (h : f_M_isSmall v0 m = some r) : jCt G Y_M_isSmall [.int v0] m (jri r) := by
  refine jCt.ov (ls := [(0, .int v0)]) mi_M_isSmall (jAvI jAvN) (Nat.le_of_ble_eq_true rfl) ?_ ⟨rfl, rfl⟩
  unfold f_M_isSmall at h
  refine J.iload_n 0 d_M_isSmall_0 rfl rfl ?_
  refine J.bipush (v := (97 : Int32)) d_M_isSmall_1 kb_97 ?_
  refine J.icmp_lt 16 d_M_isSmall_3 rfl (fun c => ?_) (fun c => ?_)
  · rw [if_pos c] at h
    refine J.iconst (v := (0 : Int32)) d_M_isSmall_16 ki_0 ?_
    cases h
    exact J.iret d_M_isSmall_17 rfl rfl rfl
  · rw [if_neg c] at h
    refine J.iload_n 0 d_M_isSmall_6 rfl rfl ?_
    refine J.bipush (v := (122 : Int32)) d_M_isSmall_7 kb_122 ?_
    refine J.icmp_gt 16 d_M_isSmall_9 rfl (fun c => ?_) (fun c => ?_)
    · rw [if_pos c] at h
      refine J.iconst (v := (0 : Int32)) d_M_isSmall_16 ki_0 ?_
      cases h
      exact J.iret d_M_isSmall_17 rfl rfl rfl
    · rw [if_neg c] at h
      refine J.iconst (v := (1 : Int32)) d_M_isSmall_12 ki_1 ?_
      refine J.goto 17 d_M_isSmall_13 rfl ?_
      cases h
      exact J.iret d_M_isSmall_17 rfl rfl rfl

def f_M_isDigit (v0 : Int32) (m : jMem) : Option (Int32 × jMem) :=
  if v0 < (48 : Int32) then
    some ((0 : Int32), m)
  else
    if (57 : Int32) < v0 then
      some ((0 : Int32), m)
    else
      some ((1 : Int32), m)
theorem c_M_isDigit {G : jG} (hG : jFul G) {v0 : Int32} {m : jMem} {r : (Int32 × jMem)} (h : f_M_isDigit v0 m = some r) : jCt G Y_M_isDigit [.int v0] m (jri r) := by
  refine jCt.ov (ls := [(0, .int v0)]) mi_M_isDigit (jAvI jAvN) (Nat.le_of_ble_eq_true rfl) ?_ ⟨rfl, rfl⟩
  unfold f_M_isDigit at h
  refine J.iload_n 0 d_M_isDigit_0 rfl rfl ?_
  refine J.bipush (v := (48 : Int32)) d_M_isDigit_1 kb_48 ?_
  refine J.icmp_lt 16 d_M_isDigit_3 rfl (fun c => ?_) (fun c => ?_)
  · rw [if_pos c] at h
    refine J.iconst (v := (0 : Int32)) d_M_isDigit_16 ki_0 ?_
    cases h
    exact J.iret d_M_isDigit_17 rfl rfl rfl
  · rw [if_neg c] at h
    refine J.iload_n 0 d_M_isDigit_6 rfl rfl ?_
    refine J.bipush (v := (57 : Int32)) d_M_isDigit_7 kb_57 ?_
    refine J.icmp_gt 16 d_M_isDigit_9 rfl (fun c => ?_) (fun c => ?_)
    · rw [if_pos c] at h
      refine J.iconst (v := (0 : Int32)) d_M_isDigit_16 ki_0 ?_
      cases h
      exact J.iret d_M_isDigit_17 rfl rfl rfl
    · rw [if_neg c] at h
      refine J.iconst (v := (1 : Int32)) d_M_isDigit_12 ki_1 ?_
      refine J.goto 17 d_M_isDigit_13 rfl ?_
      cases h
      exact J.iret d_M_isDigit_17 rfl rfl rfl

def lp_M_word_15 (v1 : Int32) (v2 : Int32) (k69 : Int32 → jMem → Option (Int32 × jMem)) : Nat → Int32 → jMem → Option (Int32 × jMem)
  | 0, _, _ => none
  | n + 1, v3, m =>
    jSC 2003 (v2 + v3) fun x2 =>
    if x2 = (32 : Int32) then
      k69 v3 m
    else
      if (m 109 17) ≤ ((m 109 18) + v3) then
        k69 v3 m
      else
        jld 1 m 110 ((m 109 18) + v3) fun x3 =>
        jSC 2003 (v2 + v3) fun x4 =>
        if x3 = x4 then
          lp_M_word_15 v1 v2 k69 n (v3 + (1 : Int32)) m
        else
          k69 v3 m
def lp_M_word_97 (v1 : Int32) (k114 : Int32 → jMem → Option (Int32 × jMem)) : Nat → Int32 → jMem → Option (Int32 × jMem)
  | 0, _, _ => none
  | n + 1, v2, m =>
    jSC 2003 v2 fun x8 =>
    if x8 = (32 : Int32) then
      k114 v2 m
    else
      lp_M_word_97 v1 k114 n (v2 + (1 : Int32)) m
def lp_M_word_4 (k95 : Int32 → jMem → Option (Int32 × jMem)) (k123 : jMem → Option (Int32 × jMem)) : Nat → Int32 → Int32 → jMem → Option (Int32 × jMem)
  | 0, _, _, _ => none
  | n + 1, v1, v2, m =>
    jSL 2003 fun x1 =>
    if x1 ≤ v2 then
      k123 m
    else
      lp_M_word_15 v1 v2 (fun w6 m5 =>
        jSC 2003 (v2 + w6) fun x7 =>
        if x7 = (32 : Int32) then
          if ((m5 109 18) + w6) = (m5 109 17) then
            k95 v1 m5
          else
            lp_M_word_97 v1 (fun w12 m11 =>
              lp_M_word_4 k95 k123 n (v1 + (1 : Int32)) (w12 + (1 : Int32)) m11) 5000 v2 m5
        else
          lp_M_word_97 v1 (fun w10 m9 =>
            lp_M_word_4 k95 k123 n (v1 + (1 : Int32)) (w10 + (1 : Int32)) m9) 5000 v2 m5) 5000 (0 : Int32) m
def f_M_word (m : jMem) : Option (Int32 × jMem) :=
  lp_M_word_4 (fun w14 m13 =>
    some (w14, m13)) (fun m15 =>
    some ((-1 : Int32), m15)) 5000 (0 : Int32) (0 : Int32) m
theorem jlp_M_word_15 {G : jG} (hG : jFul G) (v1 : Int32) (v2 : Int32) (k69 : Int32 → jMem → Option (Int32 × jMem))
    (hk69 : ∀ (v3 : Int32) (m : jMem) (r : (Int32 × jMem)), k69 v3 m = some r → J G Y_M_word 69 [(0, jr G 109), (1, .int v1), (2, .int v2), (3, .int v3)] [] m (jri r)) : ∀ (n : Nat) (v3 : Int32) (m : jMem) (r : (Int32 × jMem)), lp_M_word_15 v1 v2 k69 n v3 m = some r → J G Y_M_word 15 [(0, jr G 109), (1, .int v1), (2, .int v2), (3, .int v3)] [] m (jri r) := by
  intro n
  induction n with
  | zero => intro v3 m r h; unfold lp_M_word_15 at h; cases h
  | succ n ih =>
    intro v3 m r h
    unfold lp_M_word_15 at h
    refine J.ldcS (i := 2) d_M_word_15 (by decide) rfl ?_
    refine J.iload_n 2 d_M_word_17 rfl rfl ?_
    refine J.iload_n 3 d_M_word_18 rfl rfl ?_
    refine J.iadd d_M_word_19 ?_
    obtain ⟨x2, ex2, g, h⟩ := jSC_some h
    refine J.cT Y_JS_charAt (As := [.int (v2 + v3)]) (rest := []) d_M_word_20 mi_JS_charAt mv_JS_charAt wl_M_charAt ⟨rfl, rfl, Nat.le_of_ble_eq_true rfl⟩ rfl g.1 (c_JS_charAt g ex2) rfl (Nat.le_trans jcN (Nat.le_of_ble_eq_true rfl)) ?_
    refine J.bipush (v := (32 : Int32)) d_M_word_23 kb_32 ?_
    refine J.icmp_eq 69 d_M_word_25 rfl (fun c => ?_) (fun c => ?_)
    · rw [if_pos c] at h
      exact J.sub (ls' := [(0, jr G 109), (1, .int v1), (2, .int v2), (3, .int v3)]) [0, 1, 2, 3] rfl (hk69 v3 m _ h)
    · rw [if_neg c] at h
      refine J.aload_n 0 d_M_word_28 rfl rfl ?_
      refine J.nop (pc' := 29) rfl ?_
      refine J.getI hG d_M_word_29 fl_M_148 ck_109_18 ?_
      refine J.iload_n 3 d_M_word_32 rfl rfl ?_
      refine J.iadd d_M_word_33 ?_
      refine J.aload_n 0 d_M_word_34 rfl rfl ?_
      refine J.getI hG d_M_word_35 fl_M_138 ck_109_17 ?_
      refine J.icmp_ge 69 d_M_word_38 rfl (fun c => ?_) (fun c => ?_)
      · rw [if_pos c] at h
        exact J.sub (ls' := [(0, jr G 109), (1, .int v1), (2, .int v2), (3, .int v3)]) [0, 1, 2, 3] rfl (hk69 v3 m _ h)
      · rw [if_neg c] at h
        refine J.aload_n 0 d_M_word_41 rfl rfl ?_
        refine J.getF (n := 110) hG d_M_word_42 fl_M_7 ck_109_1 rfl ?_
        refine J.nop (pc' := 45) rfl ?_
        refine J.aload_n 0 d_M_word_45 rfl rfl ?_
        refine J.getI hG d_M_word_46 fl_M_148 ck_109_18 ?_
        refine J.iload_n 3 d_M_word_49 rfl rfl ?_
        refine J.iadd d_M_word_50 ?_
        obtain ⟨x3, ex3, g, h⟩ := jld_some h
        refine J.il hG d_M_word_51 g ex3 ?_
        refine J.ldcS (i := 2) d_M_word_52 (by decide) rfl ?_
        refine J.iload_n 2 d_M_word_54 rfl rfl ?_
        refine J.iload_n 3 d_M_word_55 rfl rfl ?_
        refine J.nop (pc' := 56) rfl ?_
        refine J.iadd d_M_word_56 ?_
        obtain ⟨x4, ex4, g, h⟩ := jSC_some h
        refine J.cT Y_JS_charAt (As := [.int (v2 + v3)]) (rest := [.int x3]) d_M_word_57 mi_JS_charAt mv_JS_charAt wl_M_charAt ⟨rfl, rfl, Nat.le_of_ble_eq_true rfl⟩ rfl g.1 (c_JS_charAt g ex4) rfl (Nat.le_trans (jcI jcN) (Nat.le_of_ble_eq_true rfl)) ?_
        refine J.icmp_ne 69 d_M_word_60 rfl (fun c => ?_) (fun c => ?_)
        · rw [if_neg c] at h
          exact J.sub (ls' := [(0, jr G 109), (1, .int v1), (2, .int v2), (3, .int v3)]) [0, 1, 2, 3] rfl (hk69 v3 m _ h)
        · rw [if_pos c] at h
          refine J.iinc 3 (v := (1 : Int32)) (lv := [(3, .int (v3 + (1 : Int32))), (0, jr G 109), (1, .int v1), (2, .int v2)]) d_M_word_63 rfl ki_1 (by decide) rfl ?_
          refine J.goto 15 d_M_word_66 rfl ?_
          exact J.sub (ls' := [(0, jr G 109), (1, .int v1), (2, .int v2), (3, .int (v3 + (1 : Int32)))]) [1, 2, 3, 0] rfl (ih (v3 + (1 : Int32)) m _ h)
theorem jlp_M_word_97 {G : jG} (hG : jFul G) (v1 : Int32) (k114 : Int32 → jMem → Option (Int32 × jMem))
    (hk114 : ∀ (v2 : Int32) (m : jMem) (r : (Int32 × jMem)), k114 v2 m = some r → J G Y_M_word 114 [(0, jr G 109), (1, .int v1), (2, .int v2)] [] m (jri r)) : ∀ (n : Nat) (v2 : Int32) (m : jMem) (r : (Int32 × jMem)), lp_M_word_97 v1 k114 n v2 m = some r → J G Y_M_word 97 [(0, jr G 109), (1, .int v1), (2, .int v2)] [] m (jri r) := by
  intro n
  induction n with
  | zero => intro v2 m r h; unfold lp_M_word_97 at h; cases h
  | succ n ih =>
    intro v2 m r h
    unfold lp_M_word_97 at h
    refine J.ldcS (i := 2) d_M_word_97 (by decide) rfl ?_
    refine J.iload_n 2 d_M_word_99 rfl rfl ?_
    obtain ⟨x8, ex8, g, h⟩ := jSC_some h
    refine J.cT Y_JS_charAt (As := [.int v2]) (rest := []) d_M_word_100 mi_JS_charAt mv_JS_charAt wl_M_charAt ⟨rfl, rfl, Nat.le_of_ble_eq_true rfl⟩ rfl g.1 (c_JS_charAt g ex8) rfl (Nat.le_trans jcN (Nat.le_of_ble_eq_true rfl)) ?_
    refine J.bipush (v := (32 : Int32)) d_M_word_103 kb_32 ?_
    refine J.icmp_eq 114 d_M_word_105 rfl (fun c => ?_) (fun c => ?_)
    · rw [if_pos c] at h
      exact J.sub (ls' := [(0, jr G 109), (1, .int v1), (2, .int v2)]) [0, 1, 2] rfl (hk114 v2 m _ h)
    · rw [if_neg c] at h
      refine J.iinc 2 (v := (1 : Int32)) (lv := [(2, .int (v2 + (1 : Int32))), (0, jr G 109), (1, .int v1)]) d_M_word_108 rfl ki_1 (by decide) rfl ?_
      refine J.goto 97 d_M_word_111 rfl ?_
      exact J.sub (ls' := [(0, jr G 109), (1, .int v1), (2, .int (v2 + (1 : Int32)))]) [1, 2, 0] rfl (ih (v2 + (1 : Int32)) m _ h)
theorem jlp_M_word_4 {G : jG} (hG : jFul G) (k95 : Int32 → jMem → Option (Int32 × jMem)) (k123 : jMem → Option (Int32 × jMem))
    (hk95 : ∀ (v1 : Int32) (m : jMem) (r : (Int32 × jMem)), k95 v1 m = some r → J G Y_M_word 95 [(1, .int v1)] [] m (jri r))
    (hk123 : ∀ (m : jMem) (r : (Int32 × jMem)), k123 m = some r → J G Y_M_word 123 [] [] m (jri r)) : ∀ (n : Nat) (v1 : Int32) (v2 : Int32) (m : jMem) (r : (Int32 × jMem)), lp_M_word_4 k95 k123 n v1 v2 m = some r → J G Y_M_word 4 [(0, jr G 109), (1, .int v1), (2, .int v2)] [] m (jri r) := by
  intro n
  induction n with
  | zero => intro v1 v2 m r h; unfold lp_M_word_4 at h; cases h
  | succ n ih =>
    intro v1 v2 m r h
    unfold lp_M_word_4 at h
    refine J.iload_n 2 d_M_word_4 rfl rfl ?_
    refine J.ldcS (i := 2) d_M_word_5 (by decide) rfl ?_
    obtain ⟨x1, ex1, g, h⟩ := jSL_some h
    refine J.cT Y_JS_length (As := []) (rest := [.int v2]) d_M_word_7 mi_JS_length mv_JS_length wl_M_length ⟨rfl, rfl, Nat.le_of_ble_eq_true rfl⟩ rfl g (c_JS_length g ex1) rfl (Nat.le_trans (jcI jcN) (Nat.le_of_ble_eq_true rfl)) ?_
    refine J.icmp_ge 123 d_M_word_10 rfl (fun c => ?_) (fun c => ?_)
    · rw [if_pos c] at h
      exact J.sub (ls' := []) [] rfl (hk123  m _ h)
    · rw [if_neg c] at h
      refine J.iconst (v := (0 : Int32)) d_M_word_13 ki_0 ?_
      refine J.istore_n (lv := [(3, .int (0 : Int32)), (0, jr G 109), (1, .int v1), (2, .int v2)]) d_M_word_14 rfl (by decide) rfl ?_
      refine J.sub (ls' := [(0, jr G 109), (1, .int v1), (2, .int v2), (3, .int (0 : Int32))]) [1, 2, 3, 0] rfl ?_
      refine jlp_M_word_15 hG v1 v2 _ ?_ _ (0 : Int32) m _ h
      intro w6 m5 r h
      refine J.ldcS (i := 2) d_M_word_69 (by decide) rfl ?_
      refine J.iload_n 2 d_M_word_71 rfl rfl ?_
      refine J.iload_n 3 d_M_word_72 rfl rfl ?_
      refine J.iadd d_M_word_73 ?_
      obtain ⟨x7, ex7, g, h⟩ := jSC_some h
      refine J.cT Y_JS_charAt (As := [.int (v2 + w6)]) (rest := []) d_M_word_74 mi_JS_charAt mv_JS_charAt wl_M_charAt ⟨rfl, rfl, Nat.le_of_ble_eq_true rfl⟩ rfl g.1 (c_JS_charAt g ex7) rfl (Nat.le_trans jcN (Nat.le_of_ble_eq_true rfl)) ?_
      refine J.bipush (v := (32 : Int32)) d_M_word_77 kb_32 ?_
      refine J.icmp_ne 97 d_M_word_79 rfl (fun c => ?_) (fun c => ?_)
      · rw [if_neg c] at h
        refine J.sub (ls' := [(0, jr G 109), (1, .int v1), (2, .int v2)]) [0, 1, 2] rfl ?_
        refine jlp_M_word_97 hG v1 _ ?_ _ v2 m5 _ h
        intro w10 m9 r h
        refine J.iinc 2 (v := (1 : Int32)) (lv := [(2, .int (w10 + (1 : Int32))), (0, jr G 109), (1, .int v1)]) d_M_word_114 rfl ki_1 (by decide) rfl ?_
        refine J.iinc 2 (v := (1 : Int32)) (lv := [(1, .int (v1 + (1 : Int32))), (2, .int (w10 + (1 : Int32))), (0, jr G 109)]) d_M_word_117 rfl ki_1 (by decide) rfl ?_
        refine J.goto 4 d_M_word_120 rfl ?_
        exact J.sub (ls' := [(0, jr G 109), (1, .int (v1 + (1 : Int32))), (2, .int (w10 + (1 : Int32)))]) [2, 0, 1] rfl (ih (v1 + (1 : Int32)) (w10 + (1 : Int32)) m9 _ h)
      · rw [if_pos c] at h
        refine J.aload_n 0 d_M_word_82 rfl rfl ?_
        refine J.nop (pc' := 83) rfl ?_
        refine J.getI hG d_M_word_83 fl_M_148 ck_109_18 ?_
        refine J.iload_n 3 d_M_word_86 rfl rfl ?_
        refine J.iadd d_M_word_87 ?_
        refine J.aload_n 0 d_M_word_88 rfl rfl ?_
        refine J.getI hG d_M_word_89 fl_M_138 ck_109_17 ?_
        refine J.icmp_ne 97 d_M_word_92 rfl (fun c => ?_) (fun c => ?_)
        · rw [if_neg c] at h
          refine J.sub (ls' := [(0, jr G 109), (1, .int v1), (2, .int v2)]) [0, 1, 2] rfl ?_
          refine jlp_M_word_97 hG v1 _ ?_ _ v2 m5 _ h
          intro w12 m11 r h
          refine J.iinc 2 (v := (1 : Int32)) (lv := [(2, .int (w12 + (1 : Int32))), (0, jr G 109), (1, .int v1)]) d_M_word_114 rfl ki_1 (by decide) rfl ?_
          refine J.iinc 2 (v := (1 : Int32)) (lv := [(1, .int (v1 + (1 : Int32))), (2, .int (w12 + (1 : Int32))), (0, jr G 109)]) d_M_word_117 rfl ki_1 (by decide) rfl ?_
          refine J.goto 4 d_M_word_120 rfl ?_
          exact J.sub (ls' := [(0, jr G 109), (1, .int (v1 + (1 : Int32))), (2, .int (w12 + (1 : Int32)))]) [2, 0, 1] rfl (ih (v1 + (1 : Int32)) (w12 + (1 : Int32)) m11 _ h)
        · rw [if_pos c] at h
          exact J.sub (ls' := [(1, .int v1)]) [1] rfl (hk95 v1 m5 _ h)
theorem c_M_word {G : jG} (hG : jFul G) {m : jMem} {r : (Int32 × jMem)} (h : f_M_word m = some r) : jCt G Y_M_word [jr G 109] m (jri r) := by
  refine jCt.ov (ls := [(0, jr G 109)]) mi_M_word (jAvR jAvN) (Nat.le_of_ble_eq_true rfl) ?_ ⟨rfl, rfl⟩
  unfold f_M_word at h
  refine J.iconst (v := (0 : Int32)) d_M_word_0 ki_0 ?_
  refine J.istore_n (lv := [(1, .int (0 : Int32)), (0, jr G 109)]) d_M_word_1 rfl (by decide) rfl ?_
  refine J.iconst (v := (0 : Int32)) d_M_word_2 ki_0 ?_
  refine J.istore_n (lv := [(2, .int (0 : Int32)), (1, .int (0 : Int32)), (0, jr G 109)]) d_M_word_3 rfl (by decide) rfl ?_
  refine J.sub (ls' := [(0, jr G 109), (1, .int (0 : Int32)), (2, .int (0 : Int32))]) [2, 1, 0] rfl ?_
  refine jlp_M_word_4 hG _ _ ?_ ?_ _ (0 : Int32) (0 : Int32) m _ h
  · intro w14 m13 r h
    refine J.iload_n 0 d_M_word_95 rfl rfl ?_
    cases h
    exact J.iret d_M_word_96 rfl (vp_nar_int _) rfl
  · intro m15 r h
    refine J.iconst (v := (-1 : Int32)) d_M_word_123 ki_m1 ?_
    cases h
    exact J.iret d_M_word_124 rfl (vp_nar_int _) rfl

def lp_M_next_0 (k31 : jMem → Option (Unit × jMem)) : Nat → jMem → Option (Unit × jMem)
  | 0, _ => none
  | n + 1, m =>
    jbd (f_M_here m) fun x1 m2 =>
    if x1 = (10 : Int32) then
      jpu m2 109 17 ((m2 109 17) + (1 : Int32)) fun m3 =>
      lp_M_next_0 k31 n m3
    else
      jbd (f_M_here m2) fun x4 m5 =>
      if x4 = (32 : Int32) then
        jpu m5 109 17 ((m5 109 17) + (1 : Int32)) fun m6 =>
        lp_M_next_0 k31 n m6
      else
        k31 m5
def lp_M_next_128 (k187 : jMem → Option (Unit × jMem)) : Nat → jMem → Option (Unit × jMem)
  | 0, _ => none
  | n + 1, m =>
    jbd (f_M_here m) fun x71 m72 =>
    jbd (f_M_isDigit x71 m72) fun x73 m74 =>
    if x73 = 0 then
      k187 m74
    else
      if (m74 109 20) ≤ (999 : Int32) then
        jbd (f_M_here m74) fun x75 m76 =>
        jpu m76 109 20 ((((10 : Int32) * (m74 109 20)) + x75) - (48 : Int32)) fun m77 =>
        jpu m77 109 17 ((m77 109 17) + (1 : Int32)) fun m78 =>
        lp_M_next_128 k187 n m78
      else
        jpu m74 109 20 (m74 109 20) fun m79 =>
        jpu m79 109 17 ((m79 109 17) + (1 : Int32)) fun m80 =>
        lp_M_next_128 k187 n m80
def lp_M_next_62 (k85 : jMem → Option (Unit × jMem)) : Nat → jMem → Option (Unit × jMem)
  | 0, _ => none
  | n + 1, m =>
    jbd (f_M_here m) fun x82 m83 =>
    jbd (f_M_isSmall x82 m83) fun x84 m85 =>
    if x84 = 0 then
      k85 m85
    else
      jpu m85 109 17 ((m85 109 17) + (1 : Int32)) fun m86 =>
      lp_M_next_62 k85 n m86
def f_M_next (m : jMem) : Option (Unit × jMem) :=
  lp_M_next_0 (fun m7 =>
    jpu m7 109 18 (m7 109 17) fun m8 =>
    jbd (f_M_here m8) fun x9 m10 =>
    if x9 = (-1 : Int32) then
      jpu m10 109 19 (3 : Int32) fun m93 =>
      some ((), m93)
    else
      jbd (f_M_isSmall x9 m10) fun x11 m12 =>
      if x11 = 0 then
        jbd (f_M_isDigit x9 m12) fun x13 m14 =>
        if x13 = 0 then
          jpu m14 109 17 ((m14 109 17) + (1 : Int32)) fun m15 =>
          jpu m15 109 19 (2 : Int32) fun m16 =>
          jpu m16 109 20 x9 fun m17 =>
          if x9 = (60 : Int32) then
            jbd (f_M_here m17) fun x41 m42 =>
            if x41 = (61 : Int32) then
              jpu m42 109 20 (256 : Int32) fun m66 =>
              if (m66 109 20) = x9 then
                if x9 = (59 : Int32) then
                  some ((), m66)
                else
                  if x9 = (45 : Int32) then
                    some ((), m66)
                  else
                    if x9 = (43 : Int32) then
                      some ((), m66)
                    else
                      if x9 = (40 : Int32) then
                        some ((), m66)
                      else
                        if x9 = (41 : Int32) then
                          some ((), m66)
                        else
                          if x9 = (60 : Int32) then
                            some ((), m66)
                          else
                            if x9 = (61 : Int32) then
                              some ((), m66)
                            else
                              if x9 = (62 : Int32) then
                                some ((), m66)
                              else
                                jpu m66 109 19 (4 : Int32) fun m67 =>
                                some ((), m67)
              else
                jpu m66 109 17 ((m66 109 17) + (1 : Int32)) fun m68 =>
                some ((), m68)
            else
              if x9 = (60 : Int32) then
                jbd (f_M_here m42) fun x52 m53 =>
                if x52 = (62 : Int32) then
                  jpu m53 109 20 (257 : Int32) fun m63 =>
                  if (m63 109 20) = x9 then
                    if x9 = (59 : Int32) then
                      some ((), m63)
                    else
                      if x9 = (45 : Int32) then
                        some ((), m63)
                      else
                        if x9 = (43 : Int32) then
                          some ((), m63)
                        else
                          if x9 = (40 : Int32) then
                            some ((), m63)
                          else
                            if x9 = (41 : Int32) then
                              some ((), m63)
                            else
                              if x9 = (60 : Int32) then
                                some ((), m63)
                              else
                                if x9 = (61 : Int32) then
                                  some ((), m63)
                                else
                                  if x9 = (62 : Int32) then
                                    some ((), m63)
                                  else
                                    jpu m63 109 19 (4 : Int32) fun m64 =>
                                    some ((), m64)
                  else
                    jpu m63 109 17 ((m63 109 17) + (1 : Int32)) fun m65 =>
                    some ((), m65)
                else
                  if x9 = (62 : Int32) then
                    jbd (f_M_here m53) fun x56 m57 =>
                    if x56 = (61 : Int32) then
                      jpu m57 109 20 (258 : Int32) fun m60 =>
                      if (m60 109 20) = x9 then
                        if x9 = (59 : Int32) then
                          some ((), m60)
                        else
                          if x9 = (45 : Int32) then
                            some ((), m60)
                          else
                            if x9 = (43 : Int32) then
                              some ((), m60)
                            else
                              if x9 = (40 : Int32) then
                                some ((), m60)
                              else
                                if x9 = (41 : Int32) then
                                  some ((), m60)
                                else
                                  if x9 = (60 : Int32) then
                                    some ((), m60)
                                  else
                                    if x9 = (61 : Int32) then
                                      some ((), m60)
                                    else
                                      if x9 = (62 : Int32) then
                                        some ((), m60)
                                      else
                                        jpu m60 109 19 (4 : Int32) fun m61 =>
                                        some ((), m61)
                      else
                        jpu m60 109 17 ((m60 109 17) + (1 : Int32)) fun m62 =>
                        some ((), m62)
                    else
                      if (m57 109 20) = x9 then
                        if x9 = (59 : Int32) then
                          some ((), m57)
                        else
                          if x9 = (45 : Int32) then
                            some ((), m57)
                          else
                            if x9 = (43 : Int32) then
                              some ((), m57)
                            else
                              if x9 = (40 : Int32) then
                                some ((), m57)
                              else
                                if x9 = (41 : Int32) then
                                  some ((), m57)
                                else
                                  if x9 = (60 : Int32) then
                                    some ((), m57)
                                  else
                                    if x9 = (61 : Int32) then
                                      some ((), m57)
                                    else
                                      if x9 = (62 : Int32) then
                                        some ((), m57)
                                      else
                                        jpu m57 109 19 (4 : Int32) fun m58 =>
                                        some ((), m58)
                      else
                        jpu m57 109 17 ((m57 109 17) + (1 : Int32)) fun m59 =>
                        some ((), m59)
                  else
                    if (m53 109 20) = x9 then
                      if x9 = (59 : Int32) then
                        some ((), m53)
                      else
                        if x9 = (45 : Int32) then
                          some ((), m53)
                        else
                          if x9 = (43 : Int32) then
                            some ((), m53)
                          else
                            if x9 = (40 : Int32) then
                              some ((), m53)
                            else
                              if x9 = (41 : Int32) then
                                some ((), m53)
                              else
                                if x9 = (60 : Int32) then
                                  some ((), m53)
                                else
                                  if x9 = (61 : Int32) then
                                    some ((), m53)
                                  else
                                    if x9 = (62 : Int32) then
                                      some ((), m53)
                                    else
                                      jpu m53 109 19 (4 : Int32) fun m54 =>
                                      some ((), m54)
                    else
                      jpu m53 109 17 ((m53 109 17) + (1 : Int32)) fun m55 =>
                      some ((), m55)
              else
                if x9 = (62 : Int32) then
                  jbd (f_M_here m42) fun x45 m46 =>
                  if x45 = (61 : Int32) then
                    jpu m46 109 20 (258 : Int32) fun m49 =>
                    if (m49 109 20) = x9 then
                      if x9 = (59 : Int32) then
                        some ((), m49)
                      else
                        if x9 = (45 : Int32) then
                          some ((), m49)
                        else
                          if x9 = (43 : Int32) then
                            some ((), m49)
                          else
                            if x9 = (40 : Int32) then
                              some ((), m49)
                            else
                              if x9 = (41 : Int32) then
                                some ((), m49)
                              else
                                if x9 = (60 : Int32) then
                                  some ((), m49)
                                else
                                  if x9 = (61 : Int32) then
                                    some ((), m49)
                                  else
                                    if x9 = (62 : Int32) then
                                      some ((), m49)
                                    else
                                      jpu m49 109 19 (4 : Int32) fun m50 =>
                                      some ((), m50)
                    else
                      jpu m49 109 17 ((m49 109 17) + (1 : Int32)) fun m51 =>
                      some ((), m51)
                  else
                    if (m46 109 20) = x9 then
                      if x9 = (59 : Int32) then
                        some ((), m46)
                      else
                        if x9 = (45 : Int32) then
                          some ((), m46)
                        else
                          if x9 = (43 : Int32) then
                            some ((), m46)
                          else
                            if x9 = (40 : Int32) then
                              some ((), m46)
                            else
                              if x9 = (41 : Int32) then
                                some ((), m46)
                              else
                                if x9 = (60 : Int32) then
                                  some ((), m46)
                                else
                                  if x9 = (61 : Int32) then
                                    some ((), m46)
                                  else
                                    if x9 = (62 : Int32) then
                                      some ((), m46)
                                    else
                                      jpu m46 109 19 (4 : Int32) fun m47 =>
                                      some ((), m47)
                    else
                      jpu m46 109 17 ((m46 109 17) + (1 : Int32)) fun m48 =>
                      some ((), m48)
                else
                  if (m42 109 20) = x9 then
                    if x9 = (59 : Int32) then
                      some ((), m42)
                    else
                      if x9 = (45 : Int32) then
                        some ((), m42)
                      else
                        if x9 = (43 : Int32) then
                          some ((), m42)
                        else
                          if x9 = (40 : Int32) then
                            some ((), m42)
                          else
                            if x9 = (41 : Int32) then
                              some ((), m42)
                            else
                              if x9 = (60 : Int32) then
                                some ((), m42)
                              else
                                if x9 = (61 : Int32) then
                                  some ((), m42)
                                else
                                  if x9 = (62 : Int32) then
                                    some ((), m42)
                                  else
                                    jpu m42 109 19 (4 : Int32) fun m43 =>
                                    some ((), m43)
                  else
                    jpu m42 109 17 ((m42 109 17) + (1 : Int32)) fun m44 =>
                    some ((), m44)
          else
            if x9 = (60 : Int32) then
              jbd (f_M_here m17) fun x27 m28 =>
              if x27 = (62 : Int32) then
                jpu m28 109 20 (257 : Int32) fun m38 =>
                if (m38 109 20) = x9 then
                  if x9 = (59 : Int32) then
                    some ((), m38)
                  else
                    if x9 = (45 : Int32) then
                      some ((), m38)
                    else
                      if x9 = (43 : Int32) then
                        some ((), m38)
                      else
                        if x9 = (40 : Int32) then
                          some ((), m38)
                        else
                          if x9 = (41 : Int32) then
                            some ((), m38)
                          else
                            if x9 = (60 : Int32) then
                              some ((), m38)
                            else
                              if x9 = (61 : Int32) then
                                some ((), m38)
                              else
                                if x9 = (62 : Int32) then
                                  some ((), m38)
                                else
                                  jpu m38 109 19 (4 : Int32) fun m39 =>
                                  some ((), m39)
                else
                  jpu m38 109 17 ((m38 109 17) + (1 : Int32)) fun m40 =>
                  some ((), m40)
              else
                if x9 = (62 : Int32) then
                  jbd (f_M_here m28) fun x31 m32 =>
                  if x31 = (61 : Int32) then
                    jpu m32 109 20 (258 : Int32) fun m35 =>
                    if (m35 109 20) = x9 then
                      if x9 = (59 : Int32) then
                        some ((), m35)
                      else
                        if x9 = (45 : Int32) then
                          some ((), m35)
                        else
                          if x9 = (43 : Int32) then
                            some ((), m35)
                          else
                            if x9 = (40 : Int32) then
                              some ((), m35)
                            else
                              if x9 = (41 : Int32) then
                                some ((), m35)
                              else
                                if x9 = (60 : Int32) then
                                  some ((), m35)
                                else
                                  if x9 = (61 : Int32) then
                                    some ((), m35)
                                  else
                                    if x9 = (62 : Int32) then
                                      some ((), m35)
                                    else
                                      jpu m35 109 19 (4 : Int32) fun m36 =>
                                      some ((), m36)
                    else
                      jpu m35 109 17 ((m35 109 17) + (1 : Int32)) fun m37 =>
                      some ((), m37)
                  else
                    if (m32 109 20) = x9 then
                      if x9 = (59 : Int32) then
                        some ((), m32)
                      else
                        if x9 = (45 : Int32) then
                          some ((), m32)
                        else
                          if x9 = (43 : Int32) then
                            some ((), m32)
                          else
                            if x9 = (40 : Int32) then
                              some ((), m32)
                            else
                              if x9 = (41 : Int32) then
                                some ((), m32)
                              else
                                if x9 = (60 : Int32) then
                                  some ((), m32)
                                else
                                  if x9 = (61 : Int32) then
                                    some ((), m32)
                                  else
                                    if x9 = (62 : Int32) then
                                      some ((), m32)
                                    else
                                      jpu m32 109 19 (4 : Int32) fun m33 =>
                                      some ((), m33)
                    else
                      jpu m32 109 17 ((m32 109 17) + (1 : Int32)) fun m34 =>
                      some ((), m34)
                else
                  if (m28 109 20) = x9 then
                    if x9 = (59 : Int32) then
                      some ((), m28)
                    else
                      if x9 = (45 : Int32) then
                        some ((), m28)
                      else
                        if x9 = (43 : Int32) then
                          some ((), m28)
                        else
                          if x9 = (40 : Int32) then
                            some ((), m28)
                          else
                            if x9 = (41 : Int32) then
                              some ((), m28)
                            else
                              if x9 = (60 : Int32) then
                                some ((), m28)
                              else
                                if x9 = (61 : Int32) then
                                  some ((), m28)
                                else
                                  if x9 = (62 : Int32) then
                                    some ((), m28)
                                  else
                                    jpu m28 109 19 (4 : Int32) fun m29 =>
                                    some ((), m29)
                  else
                    jpu m28 109 17 ((m28 109 17) + (1 : Int32)) fun m30 =>
                    some ((), m30)
            else
              if x9 = (62 : Int32) then
                jbd (f_M_here m17) fun x20 m21 =>
                if x20 = (61 : Int32) then
                  jpu m21 109 20 (258 : Int32) fun m24 =>
                  if (m24 109 20) = x9 then
                    if x9 = (59 : Int32) then
                      some ((), m24)
                    else
                      if x9 = (45 : Int32) then
                        some ((), m24)
                      else
                        if x9 = (43 : Int32) then
                          some ((), m24)
                        else
                          if x9 = (40 : Int32) then
                            some ((), m24)
                          else
                            if x9 = (41 : Int32) then
                              some ((), m24)
                            else
                              if x9 = (60 : Int32) then
                                some ((), m24)
                              else
                                if x9 = (61 : Int32) then
                                  some ((), m24)
                                else
                                  if x9 = (62 : Int32) then
                                    some ((), m24)
                                  else
                                    jpu m24 109 19 (4 : Int32) fun m25 =>
                                    some ((), m25)
                  else
                    jpu m24 109 17 ((m24 109 17) + (1 : Int32)) fun m26 =>
                    some ((), m26)
                else
                  if (m21 109 20) = x9 then
                    if x9 = (59 : Int32) then
                      some ((), m21)
                    else
                      if x9 = (45 : Int32) then
                        some ((), m21)
                      else
                        if x9 = (43 : Int32) then
                          some ((), m21)
                        else
                          if x9 = (40 : Int32) then
                            some ((), m21)
                          else
                            if x9 = (41 : Int32) then
                              some ((), m21)
                            else
                              if x9 = (60 : Int32) then
                                some ((), m21)
                              else
                                if x9 = (61 : Int32) then
                                  some ((), m21)
                                else
                                  if x9 = (62 : Int32) then
                                    some ((), m21)
                                  else
                                    jpu m21 109 19 (4 : Int32) fun m22 =>
                                    some ((), m22)
                  else
                    jpu m21 109 17 ((m21 109 17) + (1 : Int32)) fun m23 =>
                    some ((), m23)
              else
                if (m17 109 20) = x9 then
                  if x9 = (59 : Int32) then
                    some ((), m17)
                  else
                    if x9 = (45 : Int32) then
                      some ((), m17)
                    else
                      if x9 = (43 : Int32) then
                        some ((), m17)
                      else
                        if x9 = (40 : Int32) then
                          some ((), m17)
                        else
                          if x9 = (41 : Int32) then
                            some ((), m17)
                          else
                            if x9 = (60 : Int32) then
                              some ((), m17)
                            else
                              if x9 = (61 : Int32) then
                                some ((), m17)
                              else
                                if x9 = (62 : Int32) then
                                  some ((), m17)
                                else
                                  jpu m17 109 19 (4 : Int32) fun m18 =>
                                  some ((), m18)
                else
                  jpu m17 109 17 ((m17 109 17) + (1 : Int32)) fun m19 =>
                  some ((), m19)
        else
          jpu m14 109 19 (1 : Int32) fun m69 =>
          jpu m69 109 20 (0 : Int32) fun m70 =>
          lp_M_next_128 (fun m81 =>
            some ((), m81)) 5000 m70
      else
        lp_M_next_62 (fun m87 =>
          jbd (f_M_word m87) fun x88 m89 =>
          jpu m89 109 20 x88 fun m90 =>
          if (m90 109 20) = (-1 : Int32) then
            jpu m90 109 19 (4 : Int32) fun m92 =>
            some ((), m92)
          else
            jpu m90 109 19 (0 : Int32) fun m91 =>
            some ((), m91)) 5000 m12) 5000 m
theorem jlp_M_next_0 {G : jG} (hG : jFul G) (k31 : jMem → Option (Unit × jMem))
    (hk31 : ∀ (m : jMem) (r : (Unit × jMem)), k31 m = some r → J G Y_M_next 31 [(0, jr G 109)] [] m (jrv r)) : ∀ (n : Nat) (m : jMem) (r : (Unit × jMem)), lp_M_next_0 k31 n m = some r → J G Y_M_next 0 [(0, jr G 109)] [] m (jrv r) := by
  intro n
  induction n with
  | zero => intro m r h; unfold lp_M_next_0 at h; cases h
  | succ n ih =>
    intro m r h
    unfold lp_M_next_0 at h
    refine J.aload_n 0 d_M_next_0 rfl rfl ?_
    obtain ⟨x1, m2, zm2, h⟩ := jbd_some h
    refine J.cVi Y_M_here (As := []) (rest := []) hG d_M_next_1 mi_M_here mv_M_here lk_M_144 ⟨rfl, rfl, Nat.le_of_ble_eq_true rfl⟩ cq_109 cc_10 (c_M_here hG zm2) rfl (Nat.le_trans jcN (Nat.le_of_ble_eq_true rfl)) ?_
    refine J.bipush (v := (10 : Int32)) d_M_next_4 kb_10 ?_
    refine J.icmp_eq 18 d_M_next_6 rfl (fun c => ?_) (fun c => ?_)
    · rw [if_pos c] at h
      refine J.aload_n 0 d_M_next_18 rfl rfl ?_
      refine J.dup d_M_next_19 (jr_cat _ _) ?_
      refine J.getI hG d_M_next_20 fl_M_138 ck_109_17 ?_
      refine J.iconst (v := (1 : Int32)) d_M_next_23 ki_1 ?_
      refine J.iadd d_M_next_24 ?_
      obtain ⟨m3, hm3, h⟩ := jpu_some h
      refine J.putI hG d_M_next_25 fl_M_138 fp_10_17 ck_109_17 hm3 ?_
      refine J.goto 0 d_M_next_28 rfl ?_
      exact J.sub (ls' := [(0, jr G 109)]) [0] rfl (ih  m3 _ h)
    · rw [if_neg c] at h
      refine J.aload_n 0 d_M_next_9 rfl rfl ?_
      obtain ⟨x4, m5, zm5, h⟩ := jbd_some h
      refine J.cVi Y_M_here (As := []) (rest := []) hG d_M_next_10 mi_M_here mv_M_here lk_M_144 ⟨rfl, rfl, Nat.le_of_ble_eq_true rfl⟩ cq_109 cc_10 (c_M_here hG zm5) rfl (Nat.le_trans jcN (Nat.le_of_ble_eq_true rfl)) ?_
      refine J.bipush (v := (32 : Int32)) d_M_next_13 kb_32 ?_
      refine J.icmp_ne 31 d_M_next_15 rfl (fun c => ?_) (fun c => ?_)
      · rw [if_neg c] at h
        exact J.sub (ls' := [(0, jr G 109)]) [0] rfl (hk31  m5 _ h)
      · rw [if_pos c] at h
        refine J.nop (pc' := 18) rfl ?_
        refine J.aload_n 0 d_M_next_18 rfl rfl ?_
        refine J.dup d_M_next_19 (jr_cat _ _) ?_
        refine J.getI hG d_M_next_20 fl_M_138 ck_109_17 ?_
        refine J.iconst (v := (1 : Int32)) d_M_next_23 ki_1 ?_
        refine J.iadd d_M_next_24 ?_
        obtain ⟨m6, hm6, h⟩ := jpu_some h
        refine J.putI hG d_M_next_25 fl_M_138 fp_10_17 ck_109_17 hm6 ?_
        refine J.goto 0 d_M_next_28 rfl ?_
        exact J.sub (ls' := [(0, jr G 109)]) [0] rfl (ih  m6 _ h)
theorem jlp_M_next_128 {G : jG} (hG : jFul G) (k187 : jMem → Option (Unit × jMem))
    (hk187 : ∀ (m : jMem) (r : (Unit × jMem)), k187 m = some r → J G Y_M_next 187 [] [] m (jrv r)) : ∀ (n : Nat) (m : jMem) (r : (Unit × jMem)), lp_M_next_128 k187 n m = some r → J G Y_M_next 128 [(0, jr G 109)] [] m (jrv r) := by
  intro n
  induction n with
  | zero => intro m r h; unfold lp_M_next_128 at h; cases h
  | succ n ih =>
    intro m r h
    unfold lp_M_next_128 at h
    refine J.aload_n 0 d_M_next_128 rfl rfl ?_
    obtain ⟨x71, m72, zm72, h⟩ := jbd_some h
    refine J.cVi Y_M_here (As := []) (rest := []) hG d_M_next_129 mi_M_here mv_M_here lk_M_144 ⟨rfl, rfl, Nat.le_of_ble_eq_true rfl⟩ cq_109 cc_10 (c_M_here hG zm72) rfl (Nat.le_trans jcN (Nat.le_of_ble_eq_true rfl)) ?_
    obtain ⟨x73, m74, zm74, h⟩ := jbd_some h
    refine J.cSi Y_M_isDigit (As := [.int x71]) (rest := []) d_M_next_132 mi_M_isDigit ms_M_isDigit lk_M_164 ⟨rfl, rfl, Nat.le_of_ble_eq_true rfl⟩ (c_M_isDigit hG zm74) rfl (Nat.le_trans jcN (Nat.le_of_ble_eq_true rfl)) ?_
    refine J.if_eq 187 d_M_next_135 rfl (fun c => ?_) (fun c => ?_)
    · rw [if_pos c] at h
      exact J.sub (ls' := []) [] rfl (hk187  m74 _ h)
    · rw [if_neg c] at h
      refine J.aload_n 0 d_M_next_138 rfl rfl ?_
      refine J.aload_n 0 d_M_next_139 rfl rfl ?_
      refine J.getI hG d_M_next_140 fl_M_161 ck_109_20 ?_
      refine J.sipush (v := (999 : Int32)) d_M_next_143 ks_999 ?_
      refine J.nop (pc' := 146) rfl ?_
      refine J.icmp_le 156 d_M_next_146 rfl (fun c => ?_) (fun c => ?_)
      · rw [if_pos c] at h
        refine J.bipush (v := (10 : Int32)) d_M_next_156 kb_10 ?_
        refine J.aload_n 0 d_M_next_158 rfl rfl ?_
        refine J.getI hG d_M_next_159 fl_M_161 ck_109_20 ?_
        refine J.imul d_M_next_162 ?_
        refine J.aload_n 0 d_M_next_163 rfl rfl ?_
        obtain ⟨x75, m76, zm76, h⟩ := jbd_some h
        refine J.cVi Y_M_here (As := []) (rest := [.int ((10 : Int32) * (m74 109 20)), jr G 109]) hG d_M_next_164 mi_M_here mv_M_here lk_M_144 ⟨rfl, rfl, Nat.le_of_ble_eq_true rfl⟩ cq_109 cc_10 (c_M_here hG zm76) rfl (Nat.le_trans (jcI (jcR jcN)) (Nat.le_of_ble_eq_true rfl)) ?_
        refine J.iadd d_M_next_167 ?_
        refine J.bipush (v := (48 : Int32)) d_M_next_168 kb_48 ?_
        refine J.nop (pc' := 170) rfl ?_
        refine J.isub d_M_next_170 ?_
        obtain ⟨m77, hm77, h⟩ := jpu_some h
        refine J.putI hG d_M_next_171 fl_M_161 fp_10_20 ck_109_20 hm77 ?_
        refine J.aload_n 0 d_M_next_174 rfl rfl ?_
        refine J.dup d_M_next_175 (jr_cat _ _) ?_
        refine J.getI hG d_M_next_176 fl_M_138 ck_109_17 ?_
        refine J.iconst (v := (1 : Int32)) d_M_next_179 ki_1 ?_
        refine J.iadd d_M_next_180 ?_
        obtain ⟨m78, hm78, h⟩ := jpu_some h
        refine J.putI hG d_M_next_181 fl_M_138 fp_10_17 ck_109_17 hm78 ?_
        refine J.nop (pc' := 184) rfl ?_
        refine J.goto 128 d_M_next_184 rfl ?_
        exact J.sub (ls' := [(0, jr G 109)]) [0] rfl (ih  m78 _ h)
      · rw [if_neg c] at h
        refine J.aload_n 0 d_M_next_149 rfl rfl ?_
        refine J.getI hG d_M_next_150 fl_M_161 ck_109_20 ?_
        refine J.goto 171 d_M_next_153 rfl ?_
        obtain ⟨m79, hm79, h⟩ := jpu_some h
        refine J.putI hG d_M_next_171 fl_M_161 fp_10_20 ck_109_20 hm79 ?_
        refine J.aload_n 0 d_M_next_174 rfl rfl ?_
        refine J.dup d_M_next_175 (jr_cat _ _) ?_
        refine J.getI hG d_M_next_176 fl_M_138 ck_109_17 ?_
        refine J.iconst (v := (1 : Int32)) d_M_next_179 ki_1 ?_
        refine J.iadd d_M_next_180 ?_
        obtain ⟨m80, hm80, h⟩ := jpu_some h
        refine J.putI hG d_M_next_181 fl_M_138 fp_10_17 ck_109_17 hm80 ?_
        refine J.goto 128 d_M_next_184 rfl ?_
        exact J.sub (ls' := [(0, jr G 109)]) [0] rfl (ih  m80 _ h)
theorem jlp_M_next_62 {G : jG} (hG : jFul G) (k85 : jMem → Option (Unit × jMem))
    (hk85 : ∀ (m : jMem) (r : (Unit × jMem)), k85 m = some r → J G Y_M_next 85 [(0, jr G 109)] [] m (jrv r)) : ∀ (n : Nat) (m : jMem) (r : (Unit × jMem)), lp_M_next_62 k85 n m = some r → J G Y_M_next 62 [(0, jr G 109)] [] m (jrv r) := by
  intro n
  induction n with
  | zero => intro m r h; unfold lp_M_next_62 at h; cases h
  | succ n ih =>
    intro m r h
    unfold lp_M_next_62 at h
    refine J.aload_n 0 d_M_next_62 rfl rfl ?_
    obtain ⟨x82, m83, zm83, h⟩ := jbd_some h
    refine J.cVi Y_M_here (As := []) (rest := []) hG d_M_next_63 mi_M_here mv_M_here lk_M_144 ⟨rfl, rfl, Nat.le_of_ble_eq_true rfl⟩ cq_109 cc_10 (c_M_here hG zm83) rfl (Nat.le_trans jcN (Nat.le_of_ble_eq_true rfl)) ?_
    obtain ⟨x84, m85, zm85, h⟩ := jbd_some h
    refine J.cSi Y_M_isSmall (As := [.int x82]) (rest := []) d_M_next_66 mi_M_isSmall ms_M_isSmall lk_M_154 ⟨rfl, rfl, Nat.le_of_ble_eq_true rfl⟩ (c_M_isSmall hG zm85) rfl (Nat.le_trans jcN (Nat.le_of_ble_eq_true rfl)) ?_
    refine J.if_eq 85 d_M_next_69 rfl (fun c => ?_) (fun c => ?_)
    · rw [if_pos c] at h
      exact J.sub (ls' := [(0, jr G 109)]) [0] rfl (hk85  m85 _ h)
    · rw [if_neg c] at h
      refine J.aload_n 0 d_M_next_72 rfl rfl ?_
      refine J.dup d_M_next_73 (jr_cat _ _) ?_
      refine J.getI hG d_M_next_74 fl_M_138 ck_109_17 ?_
      refine J.iconst (v := (1 : Int32)) d_M_next_77 ki_1 ?_
      refine J.nop (pc' := 78) rfl ?_
      refine J.iadd d_M_next_78 ?_
      obtain ⟨m86, hm86, h⟩ := jpu_some h
      refine J.putI hG d_M_next_79 fl_M_138 fp_10_17 ck_109_17 hm86 ?_
      refine J.goto 62 d_M_next_82 rfl ?_
      exact J.sub (ls' := [(0, jr G 109)]) [0] rfl (ih  m86 _ h)
theorem c_M_next {G : jG} (hG : jFul G) {m : jMem} {r : (Unit × jMem)} (h : f_M_next m = some r) : jCt G Y_M_next [jr G 109] m (jrv r) := by
  refine jCt.ov (ls := [(0, jr G 109)]) mi_M_next (jAvR jAvN) (Nat.le_of_ble_eq_true rfl) ?_ ⟨rfl, rfl⟩
  unfold f_M_next at h
  refine J.sub (ls' := [(0, jr G 109)]) [0] rfl ?_
  refine jlp_M_next_0 hG _ ?_ _ m _ h
  intro m7 r h
  refine J.aload_n 0 d_M_next_31 rfl rfl ?_
  refine J.aload_n 0 d_M_next_32 rfl rfl ?_
  refine J.getI hG d_M_next_33 fl_M_138 ck_109_17 ?_
  obtain ⟨m8, hm8, h⟩ := jpu_some h
  refine J.putI hG d_M_next_36 fl_M_148 fp_10_18 ck_109_18 hm8 ?_
  refine J.aload_n 0 d_M_next_39 rfl rfl ?_
  obtain ⟨x9, m10, zm10, h⟩ := jbd_some h
  refine J.cVi Y_M_here (As := []) (rest := []) hG d_M_next_40 mi_M_here mv_M_here lk_M_144 ⟨rfl, rfl, Nat.le_of_ble_eq_true rfl⟩ cq_109 cc_10 (c_M_here hG zm10) rfl (Nat.le_trans jcN (Nat.le_of_ble_eq_true rfl)) ?_
  refine J.istore_n (lv := [(1, .int x9), (0, jr G 109)]) d_M_next_43 rfl (by decide) rfl ?_
  refine J.iload_n 0 d_M_next_44 rfl rfl ?_
  refine J.nop (pc' := 45) rfl ?_
  refine J.iconst (v := (-1 : Int32)) d_M_next_45 ki_m1 ?_
  refine J.icmp_ne 55 d_M_next_46 rfl (fun c => ?_) (fun c => ?_)
  · rw [if_neg c] at h
    refine J.iload_n 0 d_M_next_55 rfl rfl ?_
    obtain ⟨x11, m12, zm12, h⟩ := jbd_some h
    refine J.cSi Y_M_isSmall (As := [.int x9]) (rest := []) d_M_next_56 mi_M_isSmall ms_M_isSmall lk_M_154 ⟨rfl, rfl, Nat.le_of_ble_eq_true rfl⟩ (c_M_isSmall hG zm12) rfl (Nat.le_trans jcN (Nat.le_of_ble_eq_true rfl)) ?_
    refine J.if_eq 111 d_M_next_59 rfl (fun c => ?_) (fun c => ?_)
    · rw [if_pos c] at h
      refine J.iload_n 0 d_M_next_111 rfl rfl ?_
      obtain ⟨x13, m14, zm14, h⟩ := jbd_some h
      refine J.cSi Y_M_isDigit (As := [.int x9]) (rest := []) d_M_next_112 mi_M_isDigit ms_M_isDigit lk_M_164 ⟨rfl, rfl, Nat.le_of_ble_eq_true rfl⟩ (c_M_isDigit hG zm14) rfl (Nat.le_trans jcN (Nat.le_of_ble_eq_true rfl)) ?_
      refine J.if_eq 188 d_M_next_115 rfl (fun c => ?_) (fun c => ?_)
      · rw [if_pos c] at h
        refine J.aload_n 1 d_M_next_188 rfl rfl ?_
        refine J.dup d_M_next_189 (jr_cat _ _) ?_
        refine J.getI hG d_M_next_190 fl_M_138 ck_109_17 ?_
        refine J.iconst (v := (1 : Int32)) d_M_next_193 ki_1 ?_
        refine J.iadd d_M_next_194 ?_
        obtain ⟨m15, hm15, h⟩ := jpu_some h
        refine J.putI hG d_M_next_195 fl_M_138 fp_10_17 ck_109_17 hm15 ?_
        refine J.aload_n 1 d_M_next_198 rfl rfl ?_
        refine J.iconst (v := (2 : Int32)) d_M_next_199 ki_2 ?_
        refine J.nop (pc' := 200) rfl ?_
        obtain ⟨m16, hm16, h⟩ := jpu_some h
        refine J.putI hG d_M_next_200 fl_M_151 fp_10_19 ck_109_19 hm16 ?_
        refine J.aload_n 1 d_M_next_203 rfl rfl ?_
        refine J.iload_n 0 d_M_next_204 rfl rfl ?_
        obtain ⟨m17, hm17, h⟩ := jpu_some h
        refine J.putI hG d_M_next_205 fl_M_161 fp_10_20 ck_109_20 hm17 ?_
        refine J.iload_n 0 d_M_next_208 rfl rfl ?_
        refine J.bipush (v := (60 : Int32)) d_M_next_209 kb_60 ?_
        refine J.icmp_ne 233 d_M_next_211 rfl (fun c => ?_) (fun c => ?_)
        · rw [if_neg c] at h
          refine J.iload_n 0 d_M_next_233 rfl rfl ?_
          refine J.bipush (v := (60 : Int32)) d_M_next_234 kb_60 ?_
          refine J.icmp_ne 258 d_M_next_236 rfl (fun c => ?_) (fun c => ?_)
          · rw [if_neg c] at h
            refine J.iload_n 0 d_M_next_258 rfl rfl ?_
            refine J.bipush (v := (62 : Int32)) d_M_next_259 kb_62 ?_
            refine J.icmp_ne 280 d_M_next_261 rfl (fun c => ?_) (fun c => ?_)
            · rw [if_neg c] at h
              refine J.aload_n 1 d_M_next_280 rfl rfl ?_
              refine J.getI hG d_M_next_281 fl_M_161 ck_109_20 ?_
              refine J.iload_n 0 d_M_next_284 rfl rfl ?_
              refine J.icmp_eq 301 d_M_next_285 rfl (fun c => ?_) (fun c => ?_)
              · rw [if_pos c] at h
                refine J.iload_n 0 d_M_next_301 rfl rfl ?_
                refine J.bipush (v := (59 : Int32)) d_M_next_302 kb_59 ?_
                refine J.icmp_eq 354 d_M_next_304 rfl (fun c => ?_) (fun c => ?_)
                · rw [if_pos c] at h
                  cases h
                  exact J.vret d_M_next_354 rfl rfl
                · rw [if_neg c] at h
                  refine J.iload_n 0 d_M_next_307 rfl rfl ?_
                  refine J.bipush (v := (45 : Int32)) d_M_next_308 kb_45 ?_
                  refine J.icmp_eq 354 d_M_next_310 rfl (fun c => ?_) (fun c => ?_)
                  · rw [if_pos c] at h
                    cases h
                    exact J.vret d_M_next_354 rfl rfl
                  · rw [if_neg c] at h
                    refine J.iload_n 0 d_M_next_313 rfl rfl ?_
                    refine J.bipush (v := (43 : Int32)) d_M_next_314 kb_43 ?_
                    refine J.nop (pc' := 316) rfl ?_
                    refine J.icmp_eq 354 d_M_next_316 rfl (fun c => ?_) (fun c => ?_)
                    · rw [if_pos c] at h
                      cases h
                      exact J.vret d_M_next_354 rfl rfl
                    · rw [if_neg c] at h
                      refine J.iload_n 0 d_M_next_319 rfl rfl ?_
                      refine J.bipush (v := (40 : Int32)) d_M_next_320 kb_40 ?_
                      refine J.icmp_eq 354 d_M_next_322 rfl (fun c => ?_) (fun c => ?_)
                      · rw [if_pos c] at h
                        cases h
                        exact J.vret d_M_next_354 rfl rfl
                      · rw [if_neg c] at h
                        refine J.iload_n 0 d_M_next_325 rfl rfl ?_
                        refine J.bipush (v := (41 : Int32)) d_M_next_326 kb_41 ?_
                        refine J.icmp_eq 354 d_M_next_328 rfl (fun c => ?_) (fun c => ?_)
                        · rw [if_pos c] at h
                          cases h
                          exact J.vret d_M_next_354 rfl rfl
                        · rw [if_neg c] at h
                          refine J.iload_n 0 d_M_next_331 rfl rfl ?_
                          refine J.nop (pc' := 332) rfl ?_
                          refine J.bipush (v := (60 : Int32)) d_M_next_332 kb_60 ?_
                          refine J.icmp_eq 354 d_M_next_334 rfl (fun c => ?_) (fun c => ?_)
                          · rw [if_pos c] at h
                            cases h
                            exact J.vret d_M_next_354 rfl rfl
                          · rw [if_neg c] at h
                            refine J.iload_n 0 d_M_next_337 rfl rfl ?_
                            refine J.bipush (v := (61 : Int32)) d_M_next_338 kb_61 ?_
                            refine J.icmp_eq 354 d_M_next_340 rfl (fun c => ?_) (fun c => ?_)
                            · rw [if_pos c] at h
                              cases h
                              exact J.vret d_M_next_354 rfl rfl
                            · rw [if_neg c] at h
                              refine J.iload_n 0 d_M_next_343 rfl rfl ?_
                              refine J.bipush (v := (62 : Int32)) d_M_next_344 kb_62 ?_
                              refine J.icmp_eq 354 d_M_next_346 rfl (fun c => ?_) (fun c => ?_)
                              · rw [if_pos c] at h
                                cases h
                                exact J.vret d_M_next_354 rfl rfl
                              · rw [if_neg c] at h
                                refine J.nop (pc' := 349) rfl ?_
                                refine J.aload_n 1 d_M_next_349 rfl rfl ?_
                                refine J.iconst (v := (4 : Int32)) d_M_next_350 ki_4 ?_
                                obtain ⟨m18, hm18, h⟩ := jpu_some h
                                refine J.putI hG d_M_next_351 fl_M_151 fp_10_19 ck_109_19 hm18 ?_
                                cases h
                                exact J.vret d_M_next_354 rfl rfl
              · rw [if_neg c] at h
                refine J.aload_n 1 d_M_next_288 rfl rfl ?_
                refine J.dup d_M_next_289 (jr_cat _ _) ?_
                refine J.getI hG d_M_next_290 fl_M_138 ck_109_17 ?_
                refine J.iconst (v := (1 : Int32)) d_M_next_293 ki_1 ?_
                refine J.nop (pc' := 294) rfl ?_
                refine J.iadd d_M_next_294 ?_
                obtain ⟨m19, hm19, h⟩ := jpu_some h
                refine J.putI hG d_M_next_295 fl_M_138 fp_10_17 ck_109_17 hm19 ?_
                refine J.goto 354 d_M_next_298 rfl ?_
                cases h
                exact J.vret d_M_next_354 rfl rfl
            · rw [if_pos c] at h
              refine J.aload_n 1 d_M_next_264 rfl rfl ?_
              obtain ⟨x20, m21, zm21, h⟩ := jbd_some h
              refine J.cVi Y_M_here (As := []) (rest := []) hG d_M_next_265 mi_M_here mv_M_here lk_M_144 ⟨rfl, rfl, Nat.le_of_ble_eq_true rfl⟩ cq_109 cc_10 (c_M_here hG zm21) rfl (Nat.le_trans jcN (Nat.le_of_ble_eq_true rfl)) ?_
              refine J.bipush (v := (61 : Int32)) d_M_next_268 kb_61 ?_
              refine J.icmp_ne 280 d_M_next_270 rfl (fun c => ?_) (fun c => ?_)
              · rw [if_neg c] at h
                refine J.aload_n 1 d_M_next_280 rfl rfl ?_
                refine J.getI hG d_M_next_281 fl_M_161 ck_109_20 ?_
                refine J.iload_n 0 d_M_next_284 rfl rfl ?_
                refine J.icmp_eq 301 d_M_next_285 rfl (fun c => ?_) (fun c => ?_)
                · rw [if_pos c] at h
                  refine J.iload_n 0 d_M_next_301 rfl rfl ?_
                  refine J.bipush (v := (59 : Int32)) d_M_next_302 kb_59 ?_
                  refine J.icmp_eq 354 d_M_next_304 rfl (fun c => ?_) (fun c => ?_)
                  · rw [if_pos c] at h
                    cases h
                    exact J.vret d_M_next_354 rfl rfl
                  · rw [if_neg c] at h
                    refine J.iload_n 0 d_M_next_307 rfl rfl ?_
                    refine J.bipush (v := (45 : Int32)) d_M_next_308 kb_45 ?_
                    refine J.icmp_eq 354 d_M_next_310 rfl (fun c => ?_) (fun c => ?_)
                    · rw [if_pos c] at h
                      cases h
                      exact J.vret d_M_next_354 rfl rfl
                    · rw [if_neg c] at h
                      refine J.iload_n 0 d_M_next_313 rfl rfl ?_
                      refine J.bipush (v := (43 : Int32)) d_M_next_314 kb_43 ?_
                      refine J.nop (pc' := 316) rfl ?_
                      refine J.icmp_eq 354 d_M_next_316 rfl (fun c => ?_) (fun c => ?_)
                      · rw [if_pos c] at h
                        cases h
                        exact J.vret d_M_next_354 rfl rfl
                      · rw [if_neg c] at h
                        refine J.iload_n 0 d_M_next_319 rfl rfl ?_
                        refine J.bipush (v := (40 : Int32)) d_M_next_320 kb_40 ?_
                        refine J.icmp_eq 354 d_M_next_322 rfl (fun c => ?_) (fun c => ?_)
                        · rw [if_pos c] at h
                          cases h
                          exact J.vret d_M_next_354 rfl rfl
                        · rw [if_neg c] at h
                          refine J.iload_n 0 d_M_next_325 rfl rfl ?_
                          refine J.bipush (v := (41 : Int32)) d_M_next_326 kb_41 ?_
                          refine J.icmp_eq 354 d_M_next_328 rfl (fun c => ?_) (fun c => ?_)
                          · rw [if_pos c] at h
                            cases h
                            exact J.vret d_M_next_354 rfl rfl
                          · rw [if_neg c] at h
                            refine J.iload_n 0 d_M_next_331 rfl rfl ?_
                            refine J.nop (pc' := 332) rfl ?_
                            refine J.bipush (v := (60 : Int32)) d_M_next_332 kb_60 ?_
                            refine J.icmp_eq 354 d_M_next_334 rfl (fun c => ?_) (fun c => ?_)
                            · rw [if_pos c] at h
                              cases h
                              exact J.vret d_M_next_354 rfl rfl
                            · rw [if_neg c] at h
                              refine J.iload_n 0 d_M_next_337 rfl rfl ?_
                              refine J.bipush (v := (61 : Int32)) d_M_next_338 kb_61 ?_
                              refine J.icmp_eq 354 d_M_next_340 rfl (fun c => ?_) (fun c => ?_)
                              · rw [if_pos c] at h
                                cases h
                                exact J.vret d_M_next_354 rfl rfl
                              · rw [if_neg c] at h
                                refine J.iload_n 0 d_M_next_343 rfl rfl ?_
                                refine J.bipush (v := (62 : Int32)) d_M_next_344 kb_62 ?_
                                refine J.icmp_eq 354 d_M_next_346 rfl (fun c => ?_) (fun c => ?_)
                                · rw [if_pos c] at h
                                  cases h
                                  exact J.vret d_M_next_354 rfl rfl
                                · rw [if_neg c] at h
                                  refine J.nop (pc' := 349) rfl ?_
                                  refine J.aload_n 1 d_M_next_349 rfl rfl ?_
                                  refine J.iconst (v := (4 : Int32)) d_M_next_350 ki_4 ?_
                                  obtain ⟨m22, hm22, h⟩ := jpu_some h
                                  refine J.putI hG d_M_next_351 fl_M_151 fp_10_19 ck_109_19 hm22 ?_
                                  cases h
                                  exact J.vret d_M_next_354 rfl rfl
                · rw [if_neg c] at h
                  refine J.aload_n 1 d_M_next_288 rfl rfl ?_
                  refine J.dup d_M_next_289 (jr_cat _ _) ?_
                  refine J.getI hG d_M_next_290 fl_M_138 ck_109_17 ?_
                  refine J.iconst (v := (1 : Int32)) d_M_next_293 ki_1 ?_
                  refine J.nop (pc' := 294) rfl ?_
                  refine J.iadd d_M_next_294 ?_
                  obtain ⟨m23, hm23, h⟩ := jpu_some h
                  refine J.putI hG d_M_next_295 fl_M_138 fp_10_17 ck_109_17 hm23 ?_
                  refine J.goto 354 d_M_next_298 rfl ?_
                  cases h
                  exact J.vret d_M_next_354 rfl rfl
              · rw [if_pos c] at h
                refine J.aload_n 1 d_M_next_273 rfl rfl ?_
                refine J.nop (pc' := 274) rfl ?_
                refine J.sipush (v := (258 : Int32)) d_M_next_274 ks_258 ?_
                obtain ⟨m24, hm24, h⟩ := jpu_some h
                refine J.putI hG d_M_next_277 fl_M_161 fp_10_20 ck_109_20 hm24 ?_
                refine J.aload_n 1 d_M_next_280 rfl rfl ?_
                refine J.getI hG d_M_next_281 fl_M_161 ck_109_20 ?_
                refine J.iload_n 0 d_M_next_284 rfl rfl ?_
                refine J.icmp_eq 301 d_M_next_285 rfl (fun c => ?_) (fun c => ?_)
                · rw [if_pos c] at h
                  refine J.iload_n 0 d_M_next_301 rfl rfl ?_
                  refine J.bipush (v := (59 : Int32)) d_M_next_302 kb_59 ?_
                  refine J.icmp_eq 354 d_M_next_304 rfl (fun c => ?_) (fun c => ?_)
                  · rw [if_pos c] at h
                    cases h
                    exact J.vret d_M_next_354 rfl rfl
                  · rw [if_neg c] at h
                    refine J.iload_n 0 d_M_next_307 rfl rfl ?_
                    refine J.bipush (v := (45 : Int32)) d_M_next_308 kb_45 ?_
                    refine J.icmp_eq 354 d_M_next_310 rfl (fun c => ?_) (fun c => ?_)
                    · rw [if_pos c] at h
                      cases h
                      exact J.vret d_M_next_354 rfl rfl
                    · rw [if_neg c] at h
                      refine J.iload_n 0 d_M_next_313 rfl rfl ?_
                      refine J.bipush (v := (43 : Int32)) d_M_next_314 kb_43 ?_
                      refine J.nop (pc' := 316) rfl ?_
                      refine J.icmp_eq 354 d_M_next_316 rfl (fun c => ?_) (fun c => ?_)
                      · rw [if_pos c] at h
                        cases h
                        exact J.vret d_M_next_354 rfl rfl
                      · rw [if_neg c] at h
                        refine J.iload_n 0 d_M_next_319 rfl rfl ?_
                        refine J.bipush (v := (40 : Int32)) d_M_next_320 kb_40 ?_
                        refine J.icmp_eq 354 d_M_next_322 rfl (fun c => ?_) (fun c => ?_)
                        · rw [if_pos c] at h
                          cases h
                          exact J.vret d_M_next_354 rfl rfl
                        · rw [if_neg c] at h
                          refine J.iload_n 0 d_M_next_325 rfl rfl ?_
                          refine J.bipush (v := (41 : Int32)) d_M_next_326 kb_41 ?_
                          refine J.icmp_eq 354 d_M_next_328 rfl (fun c => ?_) (fun c => ?_)
                          · rw [if_pos c] at h
                            cases h
                            exact J.vret d_M_next_354 rfl rfl
                          · rw [if_neg c] at h
                            refine J.iload_n 0 d_M_next_331 rfl rfl ?_
                            refine J.nop (pc' := 332) rfl ?_
                            refine J.bipush (v := (60 : Int32)) d_M_next_332 kb_60 ?_
                            refine J.icmp_eq 354 d_M_next_334 rfl (fun c => ?_) (fun c => ?_)
                            · rw [if_pos c] at h
                              cases h
                              exact J.vret d_M_next_354 rfl rfl
                            · rw [if_neg c] at h
                              refine J.iload_n 0 d_M_next_337 rfl rfl ?_
                              refine J.bipush (v := (61 : Int32)) d_M_next_338 kb_61 ?_
                              refine J.icmp_eq 354 d_M_next_340 rfl (fun c => ?_) (fun c => ?_)
                              · rw [if_pos c] at h
                                cases h
                                exact J.vret d_M_next_354 rfl rfl
                              · rw [if_neg c] at h
                                refine J.iload_n 0 d_M_next_343 rfl rfl ?_
                                refine J.bipush (v := (62 : Int32)) d_M_next_344 kb_62 ?_
                                refine J.icmp_eq 354 d_M_next_346 rfl (fun c => ?_) (fun c => ?_)
                                · rw [if_pos c] at h
                                  cases h
                                  exact J.vret d_M_next_354 rfl rfl
                                · rw [if_neg c] at h
                                  refine J.nop (pc' := 349) rfl ?_
                                  refine J.aload_n 1 d_M_next_349 rfl rfl ?_
                                  refine J.iconst (v := (4 : Int32)) d_M_next_350 ki_4 ?_
                                  obtain ⟨m25, hm25, h⟩ := jpu_some h
                                  refine J.putI hG d_M_next_351 fl_M_151 fp_10_19 ck_109_19 hm25 ?_
                                  cases h
                                  exact J.vret d_M_next_354 rfl rfl
                · rw [if_neg c] at h
                  refine J.aload_n 1 d_M_next_288 rfl rfl ?_
                  refine J.dup d_M_next_289 (jr_cat _ _) ?_
                  refine J.nop (pc' := 290) rfl ?_
                  refine J.getI hG d_M_next_290 fl_M_138 ck_109_17 ?_
                  refine J.iconst (v := (1 : Int32)) d_M_next_293 ki_1 ?_
                  refine J.iadd d_M_next_294 ?_
                  obtain ⟨m26, hm26, h⟩ := jpu_some h
                  refine J.putI hG d_M_next_295 fl_M_138 fp_10_17 ck_109_17 hm26 ?_
                  refine J.goto 354 d_M_next_298 rfl ?_
                  cases h
                  exact J.vret d_M_next_354 rfl rfl
          · rw [if_pos c] at h
            refine J.aload_n 1 d_M_next_239 rfl rfl ?_
            obtain ⟨x27, m28, zm28, h⟩ := jbd_some h
            refine J.cVi Y_M_here (As := []) (rest := []) hG d_M_next_240 mi_M_here mv_M_here lk_M_144 ⟨rfl, rfl, Nat.le_of_ble_eq_true rfl⟩ cq_109 cc_10 (c_M_here hG zm28) rfl (Nat.le_trans jcN (Nat.le_of_ble_eq_true rfl)) ?_
            refine J.bipush (v := (62 : Int32)) d_M_next_243 kb_62 ?_
            refine J.icmp_ne 258 d_M_next_245 rfl (fun c => ?_) (fun c => ?_)
            · rw [if_neg c] at h
              refine J.iload_n 0 d_M_next_258 rfl rfl ?_
              refine J.bipush (v := (62 : Int32)) d_M_next_259 kb_62 ?_
              refine J.icmp_ne 280 d_M_next_261 rfl (fun c => ?_) (fun c => ?_)
              · rw [if_neg c] at h
                refine J.aload_n 1 d_M_next_280 rfl rfl ?_
                refine J.getI hG d_M_next_281 fl_M_161 ck_109_20 ?_
                refine J.iload_n 0 d_M_next_284 rfl rfl ?_
                refine J.icmp_eq 301 d_M_next_285 rfl (fun c => ?_) (fun c => ?_)
                · rw [if_pos c] at h
                  refine J.iload_n 0 d_M_next_301 rfl rfl ?_
                  refine J.bipush (v := (59 : Int32)) d_M_next_302 kb_59 ?_
                  refine J.icmp_eq 354 d_M_next_304 rfl (fun c => ?_) (fun c => ?_)
                  · rw [if_pos c] at h
                    cases h
                    exact J.vret d_M_next_354 rfl rfl
                  · rw [if_neg c] at h
                    refine J.iload_n 0 d_M_next_307 rfl rfl ?_
                    refine J.bipush (v := (45 : Int32)) d_M_next_308 kb_45 ?_
                    refine J.icmp_eq 354 d_M_next_310 rfl (fun c => ?_) (fun c => ?_)
                    · rw [if_pos c] at h
                      cases h
                      exact J.vret d_M_next_354 rfl rfl
                    · rw [if_neg c] at h
                      refine J.iload_n 0 d_M_next_313 rfl rfl ?_
                      refine J.bipush (v := (43 : Int32)) d_M_next_314 kb_43 ?_
                      refine J.nop (pc' := 316) rfl ?_
                      refine J.icmp_eq 354 d_M_next_316 rfl (fun c => ?_) (fun c => ?_)
                      · rw [if_pos c] at h
                        cases h
                        exact J.vret d_M_next_354 rfl rfl
                      · rw [if_neg c] at h
                        refine J.iload_n 0 d_M_next_319 rfl rfl ?_
                        refine J.bipush (v := (40 : Int32)) d_M_next_320 kb_40 ?_
                        refine J.icmp_eq 354 d_M_next_322 rfl (fun c => ?_) (fun c => ?_)
                        · rw [if_pos c] at h
                          cases h
                          exact J.vret d_M_next_354 rfl rfl
                        · rw [if_neg c] at h
                          refine J.iload_n 0 d_M_next_325 rfl rfl ?_
                          refine J.bipush (v := (41 : Int32)) d_M_next_326 kb_41 ?_
                          refine J.icmp_eq 354 d_M_next_328 rfl (fun c => ?_) (fun c => ?_)
                          · rw [if_pos c] at h
                            cases h
                            exact J.vret d_M_next_354 rfl rfl
                          · rw [if_neg c] at h
                            refine J.iload_n 0 d_M_next_331 rfl rfl ?_
                            refine J.nop (pc' := 332) rfl ?_
                            refine J.bipush (v := (60 : Int32)) d_M_next_332 kb_60 ?_
                            refine J.icmp_eq 354 d_M_next_334 rfl (fun c => ?_) (fun c => ?_)
                            · rw [if_pos c] at h
                              cases h
                              exact J.vret d_M_next_354 rfl rfl
                            · rw [if_neg c] at h
                              refine J.iload_n 0 d_M_next_337 rfl rfl ?_
                              refine J.bipush (v := (61 : Int32)) d_M_next_338 kb_61 ?_
                              refine J.icmp_eq 354 d_M_next_340 rfl (fun c => ?_) (fun c => ?_)
                              · rw [if_pos c] at h
                                cases h
                                exact J.vret d_M_next_354 rfl rfl
                              · rw [if_neg c] at h
                                refine J.iload_n 0 d_M_next_343 rfl rfl ?_
                                refine J.bipush (v := (62 : Int32)) d_M_next_344 kb_62 ?_
                                refine J.icmp_eq 354 d_M_next_346 rfl (fun c => ?_) (fun c => ?_)
                                · rw [if_pos c] at h
                                  cases h
                                  exact J.vret d_M_next_354 rfl rfl
                                · rw [if_neg c] at h
                                  refine J.nop (pc' := 349) rfl ?_
                                  refine J.aload_n 1 d_M_next_349 rfl rfl ?_
                                  refine J.iconst (v := (4 : Int32)) d_M_next_350 ki_4 ?_
                                  obtain ⟨m29, hm29, h⟩ := jpu_some h
                                  refine J.putI hG d_M_next_351 fl_M_151 fp_10_19 ck_109_19 hm29 ?_
                                  cases h
                                  exact J.vret d_M_next_354 rfl rfl
                · rw [if_neg c] at h
                  refine J.aload_n 1 d_M_next_288 rfl rfl ?_
                  refine J.dup d_M_next_289 (jr_cat _ _) ?_
                  refine J.getI hG d_M_next_290 fl_M_138 ck_109_17 ?_
                  refine J.iconst (v := (1 : Int32)) d_M_next_293 ki_1 ?_
                  refine J.nop (pc' := 294) rfl ?_
                  refine J.iadd d_M_next_294 ?_
                  obtain ⟨m30, hm30, h⟩ := jpu_some h
                  refine J.putI hG d_M_next_295 fl_M_138 fp_10_17 ck_109_17 hm30 ?_
                  refine J.goto 354 d_M_next_298 rfl ?_
                  cases h
                  exact J.vret d_M_next_354 rfl rfl
              · rw [if_pos c] at h
                refine J.aload_n 1 d_M_next_264 rfl rfl ?_
                obtain ⟨x31, m32, zm32, h⟩ := jbd_some h
                refine J.cVi Y_M_here (As := []) (rest := []) hG d_M_next_265 mi_M_here mv_M_here lk_M_144 ⟨rfl, rfl, Nat.le_of_ble_eq_true rfl⟩ cq_109 cc_10 (c_M_here hG zm32) rfl (Nat.le_trans jcN (Nat.le_of_ble_eq_true rfl)) ?_
                refine J.bipush (v := (61 : Int32)) d_M_next_268 kb_61 ?_
                refine J.icmp_ne 280 d_M_next_270 rfl (fun c => ?_) (fun c => ?_)
                · rw [if_neg c] at h
                  refine J.aload_n 1 d_M_next_280 rfl rfl ?_
                  refine J.getI hG d_M_next_281 fl_M_161 ck_109_20 ?_
                  refine J.iload_n 0 d_M_next_284 rfl rfl ?_
                  refine J.icmp_eq 301 d_M_next_285 rfl (fun c => ?_) (fun c => ?_)
                  · rw [if_pos c] at h
                    refine J.iload_n 0 d_M_next_301 rfl rfl ?_
                    refine J.bipush (v := (59 : Int32)) d_M_next_302 kb_59 ?_
                    refine J.icmp_eq 354 d_M_next_304 rfl (fun c => ?_) (fun c => ?_)
                    · rw [if_pos c] at h
                      cases h
                      exact J.vret d_M_next_354 rfl rfl
                    · rw [if_neg c] at h
                      refine J.iload_n 0 d_M_next_307 rfl rfl ?_
                      refine J.bipush (v := (45 : Int32)) d_M_next_308 kb_45 ?_
                      refine J.icmp_eq 354 d_M_next_310 rfl (fun c => ?_) (fun c => ?_)
                      · rw [if_pos c] at h
                        cases h
                        exact J.vret d_M_next_354 rfl rfl
                      · rw [if_neg c] at h
                        refine J.iload_n 0 d_M_next_313 rfl rfl ?_
                        refine J.bipush (v := (43 : Int32)) d_M_next_314 kb_43 ?_
                        refine J.nop (pc' := 316) rfl ?_
                        refine J.icmp_eq 354 d_M_next_316 rfl (fun c => ?_) (fun c => ?_)
                        · rw [if_pos c] at h
                          cases h
                          exact J.vret d_M_next_354 rfl rfl
                        · rw [if_neg c] at h
                          refine J.iload_n 0 d_M_next_319 rfl rfl ?_
                          refine J.bipush (v := (40 : Int32)) d_M_next_320 kb_40 ?_
                          refine J.icmp_eq 354 d_M_next_322 rfl (fun c => ?_) (fun c => ?_)
                          · rw [if_pos c] at h
                            cases h
                            exact J.vret d_M_next_354 rfl rfl
                          · rw [if_neg c] at h
                            refine J.iload_n 0 d_M_next_325 rfl rfl ?_
                            refine J.bipush (v := (41 : Int32)) d_M_next_326 kb_41 ?_
                            refine J.icmp_eq 354 d_M_next_328 rfl (fun c => ?_) (fun c => ?_)
                            · rw [if_pos c] at h
                              cases h
                              exact J.vret d_M_next_354 rfl rfl
                            · rw [if_neg c] at h
                              refine J.iload_n 0 d_M_next_331 rfl rfl ?_
                              refine J.nop (pc' := 332) rfl ?_
                              refine J.bipush (v := (60 : Int32)) d_M_next_332 kb_60 ?_
                              refine J.icmp_eq 354 d_M_next_334 rfl (fun c => ?_) (fun c => ?_)
                              · rw [if_pos c] at h
                                cases h
                                exact J.vret d_M_next_354 rfl rfl
                              · rw [if_neg c] at h
                                refine J.iload_n 0 d_M_next_337 rfl rfl ?_
                                refine J.bipush (v := (61 : Int32)) d_M_next_338 kb_61 ?_
                                refine J.icmp_eq 354 d_M_next_340 rfl (fun c => ?_) (fun c => ?_)
                                · rw [if_pos c] at h
                                  cases h
                                  exact J.vret d_M_next_354 rfl rfl
                                · rw [if_neg c] at h
                                  refine J.iload_n 0 d_M_next_343 rfl rfl ?_
                                  refine J.bipush (v := (62 : Int32)) d_M_next_344 kb_62 ?_
                                  refine J.icmp_eq 354 d_M_next_346 rfl (fun c => ?_) (fun c => ?_)
                                  · rw [if_pos c] at h
                                    cases h
                                    exact J.vret d_M_next_354 rfl rfl
                                  · rw [if_neg c] at h
                                    refine J.nop (pc' := 349) rfl ?_
                                    refine J.aload_n 1 d_M_next_349 rfl rfl ?_
                                    refine J.iconst (v := (4 : Int32)) d_M_next_350 ki_4 ?_
                                    obtain ⟨m33, hm33, h⟩ := jpu_some h
                                    refine J.putI hG d_M_next_351 fl_M_151 fp_10_19 ck_109_19 hm33 ?_
                                    cases h
                                    exact J.vret d_M_next_354 rfl rfl
                  · rw [if_neg c] at h
                    refine J.aload_n 1 d_M_next_288 rfl rfl ?_
                    refine J.dup d_M_next_289 (jr_cat _ _) ?_
                    refine J.getI hG d_M_next_290 fl_M_138 ck_109_17 ?_
                    refine J.iconst (v := (1 : Int32)) d_M_next_293 ki_1 ?_
                    refine J.nop (pc' := 294) rfl ?_
                    refine J.iadd d_M_next_294 ?_
                    obtain ⟨m34, hm34, h⟩ := jpu_some h
                    refine J.putI hG d_M_next_295 fl_M_138 fp_10_17 ck_109_17 hm34 ?_
                    refine J.goto 354 d_M_next_298 rfl ?_
                    cases h
                    exact J.vret d_M_next_354 rfl rfl
                · rw [if_pos c] at h
                  refine J.aload_n 1 d_M_next_273 rfl rfl ?_
                  refine J.nop (pc' := 274) rfl ?_
                  refine J.sipush (v := (258 : Int32)) d_M_next_274 ks_258 ?_
                  obtain ⟨m35, hm35, h⟩ := jpu_some h
                  refine J.putI hG d_M_next_277 fl_M_161 fp_10_20 ck_109_20 hm35 ?_
                  refine J.aload_n 1 d_M_next_280 rfl rfl ?_
                  refine J.getI hG d_M_next_281 fl_M_161 ck_109_20 ?_
                  refine J.iload_n 0 d_M_next_284 rfl rfl ?_
                  refine J.icmp_eq 301 d_M_next_285 rfl (fun c => ?_) (fun c => ?_)
                  · rw [if_pos c] at h
                    refine J.iload_n 0 d_M_next_301 rfl rfl ?_
                    refine J.bipush (v := (59 : Int32)) d_M_next_302 kb_59 ?_
                    refine J.icmp_eq 354 d_M_next_304 rfl (fun c => ?_) (fun c => ?_)
                    · rw [if_pos c] at h
                      cases h
                      exact J.vret d_M_next_354 rfl rfl
                    · rw [if_neg c] at h
                      refine J.iload_n 0 d_M_next_307 rfl rfl ?_
                      refine J.bipush (v := (45 : Int32)) d_M_next_308 kb_45 ?_
                      refine J.icmp_eq 354 d_M_next_310 rfl (fun c => ?_) (fun c => ?_)
                      · rw [if_pos c] at h
                        cases h
                        exact J.vret d_M_next_354 rfl rfl
                      · rw [if_neg c] at h
                        refine J.iload_n 0 d_M_next_313 rfl rfl ?_
                        refine J.bipush (v := (43 : Int32)) d_M_next_314 kb_43 ?_
                        refine J.nop (pc' := 316) rfl ?_
                        refine J.icmp_eq 354 d_M_next_316 rfl (fun c => ?_) (fun c => ?_)
                        · rw [if_pos c] at h
                          cases h
                          exact J.vret d_M_next_354 rfl rfl
                        · rw [if_neg c] at h
                          refine J.iload_n 0 d_M_next_319 rfl rfl ?_
                          refine J.bipush (v := (40 : Int32)) d_M_next_320 kb_40 ?_
                          refine J.icmp_eq 354 d_M_next_322 rfl (fun c => ?_) (fun c => ?_)
                          · rw [if_pos c] at h
                            cases h
                            exact J.vret d_M_next_354 rfl rfl
                          · rw [if_neg c] at h
                            refine J.iload_n 0 d_M_next_325 rfl rfl ?_
                            refine J.bipush (v := (41 : Int32)) d_M_next_326 kb_41 ?_
                            refine J.icmp_eq 354 d_M_next_328 rfl (fun c => ?_) (fun c => ?_)
                            · rw [if_pos c] at h
                              cases h
                              exact J.vret d_M_next_354 rfl rfl
                            · rw [if_neg c] at h
                              refine J.iload_n 0 d_M_next_331 rfl rfl ?_
                              refine J.nop (pc' := 332) rfl ?_
                              refine J.bipush (v := (60 : Int32)) d_M_next_332 kb_60 ?_
                              refine J.icmp_eq 354 d_M_next_334 rfl (fun c => ?_) (fun c => ?_)
                              · rw [if_pos c] at h
                                cases h
                                exact J.vret d_M_next_354 rfl rfl
                              · rw [if_neg c] at h
                                refine J.iload_n 0 d_M_next_337 rfl rfl ?_
                                refine J.bipush (v := (61 : Int32)) d_M_next_338 kb_61 ?_
                                refine J.icmp_eq 354 d_M_next_340 rfl (fun c => ?_) (fun c => ?_)
                                · rw [if_pos c] at h
                                  cases h
                                  exact J.vret d_M_next_354 rfl rfl
                                · rw [if_neg c] at h
                                  refine J.iload_n 0 d_M_next_343 rfl rfl ?_
                                  refine J.bipush (v := (62 : Int32)) d_M_next_344 kb_62 ?_
                                  refine J.icmp_eq 354 d_M_next_346 rfl (fun c => ?_) (fun c => ?_)
                                  · rw [if_pos c] at h
                                    cases h
                                    exact J.vret d_M_next_354 rfl rfl
                                  · rw [if_neg c] at h
                                    refine J.nop (pc' := 349) rfl ?_
                                    refine J.aload_n 1 d_M_next_349 rfl rfl ?_
                                    refine J.iconst (v := (4 : Int32)) d_M_next_350 ki_4 ?_
                                    obtain ⟨m36, hm36, h⟩ := jpu_some h
                                    refine J.putI hG d_M_next_351 fl_M_151 fp_10_19 ck_109_19 hm36 ?_
                                    cases h
                                    exact J.vret d_M_next_354 rfl rfl
                  · rw [if_neg c] at h
                    refine J.aload_n 1 d_M_next_288 rfl rfl ?_
                    refine J.dup d_M_next_289 (jr_cat _ _) ?_
                    refine J.nop (pc' := 290) rfl ?_
                    refine J.getI hG d_M_next_290 fl_M_138 ck_109_17 ?_
                    refine J.iconst (v := (1 : Int32)) d_M_next_293 ki_1 ?_
                    refine J.iadd d_M_next_294 ?_
                    obtain ⟨m37, hm37, h⟩ := jpu_some h
                    refine J.putI hG d_M_next_295 fl_M_138 fp_10_17 ck_109_17 hm37 ?_
                    refine J.goto 354 d_M_next_298 rfl ?_
                    cases h
                    exact J.vret d_M_next_354 rfl rfl
            · rw [if_pos c] at h
              refine J.aload_n 1 d_M_next_248 rfl rfl ?_
              refine J.nop (pc' := 249) rfl ?_
              refine J.sipush (v := (257 : Int32)) d_M_next_249 ks_257 ?_
              obtain ⟨m38, hm38, h⟩ := jpu_some h
              refine J.putI hG d_M_next_252 fl_M_161 fp_10_20 ck_109_20 hm38 ?_
              refine J.goto 280 d_M_next_255 rfl ?_
              refine J.aload_n 1 d_M_next_280 rfl rfl ?_
              refine J.getI hG d_M_next_281 fl_M_161 ck_109_20 ?_
              refine J.iload_n 0 d_M_next_284 rfl rfl ?_
              refine J.icmp_eq 301 d_M_next_285 rfl (fun c => ?_) (fun c => ?_)
              · rw [if_pos c] at h
                refine J.iload_n 0 d_M_next_301 rfl rfl ?_
                refine J.bipush (v := (59 : Int32)) d_M_next_302 kb_59 ?_
                refine J.icmp_eq 354 d_M_next_304 rfl (fun c => ?_) (fun c => ?_)
                · rw [if_pos c] at h
                  cases h
                  exact J.vret d_M_next_354 rfl rfl
                · rw [if_neg c] at h
                  refine J.iload_n 0 d_M_next_307 rfl rfl ?_
                  refine J.bipush (v := (45 : Int32)) d_M_next_308 kb_45 ?_
                  refine J.icmp_eq 354 d_M_next_310 rfl (fun c => ?_) (fun c => ?_)
                  · rw [if_pos c] at h
                    cases h
                    exact J.vret d_M_next_354 rfl rfl
                  · rw [if_neg c] at h
                    refine J.iload_n 0 d_M_next_313 rfl rfl ?_
                    refine J.bipush (v := (43 : Int32)) d_M_next_314 kb_43 ?_
                    refine J.nop (pc' := 316) rfl ?_
                    refine J.icmp_eq 354 d_M_next_316 rfl (fun c => ?_) (fun c => ?_)
                    · rw [if_pos c] at h
                      cases h
                      exact J.vret d_M_next_354 rfl rfl
                    · rw [if_neg c] at h
                      refine J.iload_n 0 d_M_next_319 rfl rfl ?_
                      refine J.bipush (v := (40 : Int32)) d_M_next_320 kb_40 ?_
                      refine J.icmp_eq 354 d_M_next_322 rfl (fun c => ?_) (fun c => ?_)
                      · rw [if_pos c] at h
                        cases h
                        exact J.vret d_M_next_354 rfl rfl
                      · rw [if_neg c] at h
                        refine J.iload_n 0 d_M_next_325 rfl rfl ?_
                        refine J.bipush (v := (41 : Int32)) d_M_next_326 kb_41 ?_
                        refine J.icmp_eq 354 d_M_next_328 rfl (fun c => ?_) (fun c => ?_)
                        · rw [if_pos c] at h
                          cases h
                          exact J.vret d_M_next_354 rfl rfl
                        · rw [if_neg c] at h
                          refine J.iload_n 0 d_M_next_331 rfl rfl ?_
                          refine J.nop (pc' := 332) rfl ?_
                          refine J.bipush (v := (60 : Int32)) d_M_next_332 kb_60 ?_
                          refine J.icmp_eq 354 d_M_next_334 rfl (fun c => ?_) (fun c => ?_)
                          · rw [if_pos c] at h
                            cases h
                            exact J.vret d_M_next_354 rfl rfl
                          · rw [if_neg c] at h
                            refine J.iload_n 0 d_M_next_337 rfl rfl ?_
                            refine J.bipush (v := (61 : Int32)) d_M_next_338 kb_61 ?_
                            refine J.icmp_eq 354 d_M_next_340 rfl (fun c => ?_) (fun c => ?_)
                            · rw [if_pos c] at h
                              cases h
                              exact J.vret d_M_next_354 rfl rfl
                            · rw [if_neg c] at h
                              refine J.iload_n 0 d_M_next_343 rfl rfl ?_
                              refine J.bipush (v := (62 : Int32)) d_M_next_344 kb_62 ?_
                              refine J.icmp_eq 354 d_M_next_346 rfl (fun c => ?_) (fun c => ?_)
                              · rw [if_pos c] at h
                                cases h
                                exact J.vret d_M_next_354 rfl rfl
                              · rw [if_neg c] at h
                                refine J.nop (pc' := 349) rfl ?_
                                refine J.aload_n 1 d_M_next_349 rfl rfl ?_
                                refine J.iconst (v := (4 : Int32)) d_M_next_350 ki_4 ?_
                                obtain ⟨m39, hm39, h⟩ := jpu_some h
                                refine J.putI hG d_M_next_351 fl_M_151 fp_10_19 ck_109_19 hm39 ?_
                                cases h
                                exact J.vret d_M_next_354 rfl rfl
              · rw [if_neg c] at h
                refine J.aload_n 1 d_M_next_288 rfl rfl ?_
                refine J.dup d_M_next_289 (jr_cat _ _) ?_
                refine J.getI hG d_M_next_290 fl_M_138 ck_109_17 ?_
                refine J.iconst (v := (1 : Int32)) d_M_next_293 ki_1 ?_
                refine J.nop (pc' := 294) rfl ?_
                refine J.iadd d_M_next_294 ?_
                obtain ⟨m40, hm40, h⟩ := jpu_some h
                refine J.putI hG d_M_next_295 fl_M_138 fp_10_17 ck_109_17 hm40 ?_
                refine J.goto 354 d_M_next_298 rfl ?_
                cases h
                exact J.vret d_M_next_354 rfl rfl
        · rw [if_pos c] at h
          refine J.aload_n 1 d_M_next_214 rfl rfl ?_
          refine J.nop (pc' := 215) rfl ?_
          obtain ⟨x41, m42, zm42, h⟩ := jbd_some h
          refine J.cVi Y_M_here (As := []) (rest := []) hG d_M_next_215 mi_M_here mv_M_here lk_M_144 ⟨rfl, rfl, Nat.le_of_ble_eq_true rfl⟩ cq_109 cc_10 (c_M_here hG zm42) rfl (Nat.le_trans jcN (Nat.le_of_ble_eq_true rfl)) ?_
          refine J.bipush (v := (61 : Int32)) d_M_next_218 kb_61 ?_
          refine J.icmp_ne 233 d_M_next_220 rfl (fun c => ?_) (fun c => ?_)
          · rw [if_neg c] at h
            refine J.iload_n 0 d_M_next_233 rfl rfl ?_
            refine J.bipush (v := (60 : Int32)) d_M_next_234 kb_60 ?_
            refine J.icmp_ne 258 d_M_next_236 rfl (fun c => ?_) (fun c => ?_)
            · rw [if_neg c] at h
              refine J.iload_n 0 d_M_next_258 rfl rfl ?_
              refine J.bipush (v := (62 : Int32)) d_M_next_259 kb_62 ?_
              refine J.icmp_ne 280 d_M_next_261 rfl (fun c => ?_) (fun c => ?_)
              · rw [if_neg c] at h
                refine J.aload_n 1 d_M_next_280 rfl rfl ?_
                refine J.getI hG d_M_next_281 fl_M_161 ck_109_20 ?_
                refine J.iload_n 0 d_M_next_284 rfl rfl ?_
                refine J.icmp_eq 301 d_M_next_285 rfl (fun c => ?_) (fun c => ?_)
                · rw [if_pos c] at h
                  refine J.iload_n 0 d_M_next_301 rfl rfl ?_
                  refine J.bipush (v := (59 : Int32)) d_M_next_302 kb_59 ?_
                  refine J.icmp_eq 354 d_M_next_304 rfl (fun c => ?_) (fun c => ?_)
                  · rw [if_pos c] at h
                    cases h
                    exact J.vret d_M_next_354 rfl rfl
                  · rw [if_neg c] at h
                    refine J.iload_n 0 d_M_next_307 rfl rfl ?_
                    refine J.bipush (v := (45 : Int32)) d_M_next_308 kb_45 ?_
                    refine J.icmp_eq 354 d_M_next_310 rfl (fun c => ?_) (fun c => ?_)
                    · rw [if_pos c] at h
                      cases h
                      exact J.vret d_M_next_354 rfl rfl
                    · rw [if_neg c] at h
                      refine J.iload_n 0 d_M_next_313 rfl rfl ?_
                      refine J.bipush (v := (43 : Int32)) d_M_next_314 kb_43 ?_
                      refine J.nop (pc' := 316) rfl ?_
                      refine J.icmp_eq 354 d_M_next_316 rfl (fun c => ?_) (fun c => ?_)
                      · rw [if_pos c] at h
                        cases h
                        exact J.vret d_M_next_354 rfl rfl
                      · rw [if_neg c] at h
                        refine J.iload_n 0 d_M_next_319 rfl rfl ?_
                        refine J.bipush (v := (40 : Int32)) d_M_next_320 kb_40 ?_
                        refine J.icmp_eq 354 d_M_next_322 rfl (fun c => ?_) (fun c => ?_)
                        · rw [if_pos c] at h
                          cases h
                          exact J.vret d_M_next_354 rfl rfl
                        · rw [if_neg c] at h
                          refine J.iload_n 0 d_M_next_325 rfl rfl ?_
                          refine J.bipush (v := (41 : Int32)) d_M_next_326 kb_41 ?_
                          refine J.icmp_eq 354 d_M_next_328 rfl (fun c => ?_) (fun c => ?_)
                          · rw [if_pos c] at h
                            cases h
                            exact J.vret d_M_next_354 rfl rfl
                          · rw [if_neg c] at h
                            refine J.iload_n 0 d_M_next_331 rfl rfl ?_
                            refine J.nop (pc' := 332) rfl ?_
                            refine J.bipush (v := (60 : Int32)) d_M_next_332 kb_60 ?_
                            refine J.icmp_eq 354 d_M_next_334 rfl (fun c => ?_) (fun c => ?_)
                            · rw [if_pos c] at h
                              cases h
                              exact J.vret d_M_next_354 rfl rfl
                            · rw [if_neg c] at h
                              refine J.iload_n 0 d_M_next_337 rfl rfl ?_
                              refine J.bipush (v := (61 : Int32)) d_M_next_338 kb_61 ?_
                              refine J.icmp_eq 354 d_M_next_340 rfl (fun c => ?_) (fun c => ?_)
                              · rw [if_pos c] at h
                                cases h
                                exact J.vret d_M_next_354 rfl rfl
                              · rw [if_neg c] at h
                                refine J.iload_n 0 d_M_next_343 rfl rfl ?_
                                refine J.bipush (v := (62 : Int32)) d_M_next_344 kb_62 ?_
                                refine J.icmp_eq 354 d_M_next_346 rfl (fun c => ?_) (fun c => ?_)
                                · rw [if_pos c] at h
                                  cases h
                                  exact J.vret d_M_next_354 rfl rfl
                                · rw [if_neg c] at h
                                  refine J.nop (pc' := 349) rfl ?_
                                  refine J.aload_n 1 d_M_next_349 rfl rfl ?_
                                  refine J.iconst (v := (4 : Int32)) d_M_next_350 ki_4 ?_
                                  obtain ⟨m43, hm43, h⟩ := jpu_some h
                                  refine J.putI hG d_M_next_351 fl_M_151 fp_10_19 ck_109_19 hm43 ?_
                                  cases h
                                  exact J.vret d_M_next_354 rfl rfl
                · rw [if_neg c] at h
                  refine J.aload_n 1 d_M_next_288 rfl rfl ?_
                  refine J.dup d_M_next_289 (jr_cat _ _) ?_
                  refine J.getI hG d_M_next_290 fl_M_138 ck_109_17 ?_
                  refine J.iconst (v := (1 : Int32)) d_M_next_293 ki_1 ?_
                  refine J.nop (pc' := 294) rfl ?_
                  refine J.iadd d_M_next_294 ?_
                  obtain ⟨m44, hm44, h⟩ := jpu_some h
                  refine J.putI hG d_M_next_295 fl_M_138 fp_10_17 ck_109_17 hm44 ?_
                  refine J.goto 354 d_M_next_298 rfl ?_
                  cases h
                  exact J.vret d_M_next_354 rfl rfl
              · rw [if_pos c] at h
                refine J.aload_n 1 d_M_next_264 rfl rfl ?_
                obtain ⟨x45, m46, zm46, h⟩ := jbd_some h
                refine J.cVi Y_M_here (As := []) (rest := []) hG d_M_next_265 mi_M_here mv_M_here lk_M_144 ⟨rfl, rfl, Nat.le_of_ble_eq_true rfl⟩ cq_109 cc_10 (c_M_here hG zm46) rfl (Nat.le_trans jcN (Nat.le_of_ble_eq_true rfl)) ?_
                refine J.bipush (v := (61 : Int32)) d_M_next_268 kb_61 ?_
                refine J.icmp_ne 280 d_M_next_270 rfl (fun c => ?_) (fun c => ?_)
                · rw [if_neg c] at h
                  refine J.aload_n 1 d_M_next_280 rfl rfl ?_
                  refine J.getI hG d_M_next_281 fl_M_161 ck_109_20 ?_
                  refine J.iload_n 0 d_M_next_284 rfl rfl ?_
                  refine J.icmp_eq 301 d_M_next_285 rfl (fun c => ?_) (fun c => ?_)
                  · rw [if_pos c] at h
                    refine J.iload_n 0 d_M_next_301 rfl rfl ?_
                    refine J.bipush (v := (59 : Int32)) d_M_next_302 kb_59 ?_
                    refine J.icmp_eq 354 d_M_next_304 rfl (fun c => ?_) (fun c => ?_)
                    · rw [if_pos c] at h
                      cases h
                      exact J.vret d_M_next_354 rfl rfl
                    · rw [if_neg c] at h
                      refine J.iload_n 0 d_M_next_307 rfl rfl ?_
                      refine J.bipush (v := (45 : Int32)) d_M_next_308 kb_45 ?_
                      refine J.icmp_eq 354 d_M_next_310 rfl (fun c => ?_) (fun c => ?_)
                      · rw [if_pos c] at h
                        cases h
                        exact J.vret d_M_next_354 rfl rfl
                      · rw [if_neg c] at h
                        refine J.iload_n 0 d_M_next_313 rfl rfl ?_
                        refine J.bipush (v := (43 : Int32)) d_M_next_314 kb_43 ?_
                        refine J.nop (pc' := 316) rfl ?_
                        refine J.icmp_eq 354 d_M_next_316 rfl (fun c => ?_) (fun c => ?_)
                        · rw [if_pos c] at h
                          cases h
                          exact J.vret d_M_next_354 rfl rfl
                        · rw [if_neg c] at h
                          refine J.iload_n 0 d_M_next_319 rfl rfl ?_
                          refine J.bipush (v := (40 : Int32)) d_M_next_320 kb_40 ?_
                          refine J.icmp_eq 354 d_M_next_322 rfl (fun c => ?_) (fun c => ?_)
                          · rw [if_pos c] at h
                            cases h
                            exact J.vret d_M_next_354 rfl rfl
                          · rw [if_neg c] at h
                            refine J.iload_n 0 d_M_next_325 rfl rfl ?_
                            refine J.bipush (v := (41 : Int32)) d_M_next_326 kb_41 ?_
                            refine J.icmp_eq 354 d_M_next_328 rfl (fun c => ?_) (fun c => ?_)
                            · rw [if_pos c] at h
                              cases h
                              exact J.vret d_M_next_354 rfl rfl
                            · rw [if_neg c] at h
                              refine J.iload_n 0 d_M_next_331 rfl rfl ?_
                              refine J.nop (pc' := 332) rfl ?_
                              refine J.bipush (v := (60 : Int32)) d_M_next_332 kb_60 ?_
                              refine J.icmp_eq 354 d_M_next_334 rfl (fun c => ?_) (fun c => ?_)
                              · rw [if_pos c] at h
                                cases h
                                exact J.vret d_M_next_354 rfl rfl
                              · rw [if_neg c] at h
                                refine J.iload_n 0 d_M_next_337 rfl rfl ?_
                                refine J.bipush (v := (61 : Int32)) d_M_next_338 kb_61 ?_
                                refine J.icmp_eq 354 d_M_next_340 rfl (fun c => ?_) (fun c => ?_)
                                · rw [if_pos c] at h
                                  cases h
                                  exact J.vret d_M_next_354 rfl rfl
                                · rw [if_neg c] at h
                                  refine J.iload_n 0 d_M_next_343 rfl rfl ?_
                                  refine J.bipush (v := (62 : Int32)) d_M_next_344 kb_62 ?_
                                  refine J.icmp_eq 354 d_M_next_346 rfl (fun c => ?_) (fun c => ?_)
                                  · rw [if_pos c] at h
                                    cases h
                                    exact J.vret d_M_next_354 rfl rfl
                                  · rw [if_neg c] at h
                                    refine J.nop (pc' := 349) rfl ?_
                                    refine J.aload_n 1 d_M_next_349 rfl rfl ?_
                                    refine J.iconst (v := (4 : Int32)) d_M_next_350 ki_4 ?_
                                    obtain ⟨m47, hm47, h⟩ := jpu_some h
                                    refine J.putI hG d_M_next_351 fl_M_151 fp_10_19 ck_109_19 hm47 ?_
                                    cases h
                                    exact J.vret d_M_next_354 rfl rfl
                  · rw [if_neg c] at h
                    refine J.aload_n 1 d_M_next_288 rfl rfl ?_
                    refine J.dup d_M_next_289 (jr_cat _ _) ?_
                    refine J.getI hG d_M_next_290 fl_M_138 ck_109_17 ?_
                    refine J.iconst (v := (1 : Int32)) d_M_next_293 ki_1 ?_
                    refine J.nop (pc' := 294) rfl ?_
                    refine J.iadd d_M_next_294 ?_
                    obtain ⟨m48, hm48, h⟩ := jpu_some h
                    refine J.putI hG d_M_next_295 fl_M_138 fp_10_17 ck_109_17 hm48 ?_
                    refine J.goto 354 d_M_next_298 rfl ?_
                    cases h
                    exact J.vret d_M_next_354 rfl rfl
                · rw [if_pos c] at h
                  refine J.aload_n 1 d_M_next_273 rfl rfl ?_
                  refine J.nop (pc' := 274) rfl ?_
                  refine J.sipush (v := (258 : Int32)) d_M_next_274 ks_258 ?_
                  obtain ⟨m49, hm49, h⟩ := jpu_some h
                  refine J.putI hG d_M_next_277 fl_M_161 fp_10_20 ck_109_20 hm49 ?_
                  refine J.aload_n 1 d_M_next_280 rfl rfl ?_
                  refine J.getI hG d_M_next_281 fl_M_161 ck_109_20 ?_
                  refine J.iload_n 0 d_M_next_284 rfl rfl ?_
                  refine J.icmp_eq 301 d_M_next_285 rfl (fun c => ?_) (fun c => ?_)
                  · rw [if_pos c] at h
                    refine J.iload_n 0 d_M_next_301 rfl rfl ?_
                    refine J.bipush (v := (59 : Int32)) d_M_next_302 kb_59 ?_
                    refine J.icmp_eq 354 d_M_next_304 rfl (fun c => ?_) (fun c => ?_)
                    · rw [if_pos c] at h
                      cases h
                      exact J.vret d_M_next_354 rfl rfl
                    · rw [if_neg c] at h
                      refine J.iload_n 0 d_M_next_307 rfl rfl ?_
                      refine J.bipush (v := (45 : Int32)) d_M_next_308 kb_45 ?_
                      refine J.icmp_eq 354 d_M_next_310 rfl (fun c => ?_) (fun c => ?_)
                      · rw [if_pos c] at h
                        cases h
                        exact J.vret d_M_next_354 rfl rfl
                      · rw [if_neg c] at h
                        refine J.iload_n 0 d_M_next_313 rfl rfl ?_
                        refine J.bipush (v := (43 : Int32)) d_M_next_314 kb_43 ?_
                        refine J.nop (pc' := 316) rfl ?_
                        refine J.icmp_eq 354 d_M_next_316 rfl (fun c => ?_) (fun c => ?_)
                        · rw [if_pos c] at h
                          cases h
                          exact J.vret d_M_next_354 rfl rfl
                        · rw [if_neg c] at h
                          refine J.iload_n 0 d_M_next_319 rfl rfl ?_
                          refine J.bipush (v := (40 : Int32)) d_M_next_320 kb_40 ?_
                          refine J.icmp_eq 354 d_M_next_322 rfl (fun c => ?_) (fun c => ?_)
                          · rw [if_pos c] at h
                            cases h
                            exact J.vret d_M_next_354 rfl rfl
                          · rw [if_neg c] at h
                            refine J.iload_n 0 d_M_next_325 rfl rfl ?_
                            refine J.bipush (v := (41 : Int32)) d_M_next_326 kb_41 ?_
                            refine J.icmp_eq 354 d_M_next_328 rfl (fun c => ?_) (fun c => ?_)
                            · rw [if_pos c] at h
                              cases h
                              exact J.vret d_M_next_354 rfl rfl
                            · rw [if_neg c] at h
                              refine J.iload_n 0 d_M_next_331 rfl rfl ?_
                              refine J.nop (pc' := 332) rfl ?_
                              refine J.bipush (v := (60 : Int32)) d_M_next_332 kb_60 ?_
                              refine J.icmp_eq 354 d_M_next_334 rfl (fun c => ?_) (fun c => ?_)
                              · rw [if_pos c] at h
                                cases h
                                exact J.vret d_M_next_354 rfl rfl
                              · rw [if_neg c] at h
                                refine J.iload_n 0 d_M_next_337 rfl rfl ?_
                                refine J.bipush (v := (61 : Int32)) d_M_next_338 kb_61 ?_
                                refine J.icmp_eq 354 d_M_next_340 rfl (fun c => ?_) (fun c => ?_)
                                · rw [if_pos c] at h
                                  cases h
                                  exact J.vret d_M_next_354 rfl rfl
                                · rw [if_neg c] at h
                                  refine J.iload_n 0 d_M_next_343 rfl rfl ?_
                                  refine J.bipush (v := (62 : Int32)) d_M_next_344 kb_62 ?_
                                  refine J.icmp_eq 354 d_M_next_346 rfl (fun c => ?_) (fun c => ?_)
                                  · rw [if_pos c] at h
                                    cases h
                                    exact J.vret d_M_next_354 rfl rfl
                                  · rw [if_neg c] at h
                                    refine J.nop (pc' := 349) rfl ?_
                                    refine J.aload_n 1 d_M_next_349 rfl rfl ?_
                                    refine J.iconst (v := (4 : Int32)) d_M_next_350 ki_4 ?_
                                    obtain ⟨m50, hm50, h⟩ := jpu_some h
                                    refine J.putI hG d_M_next_351 fl_M_151 fp_10_19 ck_109_19 hm50 ?_
                                    cases h
                                    exact J.vret d_M_next_354 rfl rfl
                  · rw [if_neg c] at h
                    refine J.aload_n 1 d_M_next_288 rfl rfl ?_
                    refine J.dup d_M_next_289 (jr_cat _ _) ?_
                    refine J.nop (pc' := 290) rfl ?_
                    refine J.getI hG d_M_next_290 fl_M_138 ck_109_17 ?_
                    refine J.iconst (v := (1 : Int32)) d_M_next_293 ki_1 ?_
                    refine J.iadd d_M_next_294 ?_
                    obtain ⟨m51, hm51, h⟩ := jpu_some h
                    refine J.putI hG d_M_next_295 fl_M_138 fp_10_17 ck_109_17 hm51 ?_
                    refine J.goto 354 d_M_next_298 rfl ?_
                    cases h
                    exact J.vret d_M_next_354 rfl rfl
            · rw [if_pos c] at h
              refine J.aload_n 1 d_M_next_239 rfl rfl ?_
              obtain ⟨x52, m53, zm53, h⟩ := jbd_some h
              refine J.cVi Y_M_here (As := []) (rest := []) hG d_M_next_240 mi_M_here mv_M_here lk_M_144 ⟨rfl, rfl, Nat.le_of_ble_eq_true rfl⟩ cq_109 cc_10 (c_M_here hG zm53) rfl (Nat.le_trans jcN (Nat.le_of_ble_eq_true rfl)) ?_
              refine J.bipush (v := (62 : Int32)) d_M_next_243 kb_62 ?_
              refine J.icmp_ne 258 d_M_next_245 rfl (fun c => ?_) (fun c => ?_)
              · rw [if_neg c] at h
                refine J.iload_n 0 d_M_next_258 rfl rfl ?_
                refine J.bipush (v := (62 : Int32)) d_M_next_259 kb_62 ?_
                refine J.icmp_ne 280 d_M_next_261 rfl (fun c => ?_) (fun c => ?_)
                · rw [if_neg c] at h
                  refine J.aload_n 1 d_M_next_280 rfl rfl ?_
                  refine J.getI hG d_M_next_281 fl_M_161 ck_109_20 ?_
                  refine J.iload_n 0 d_M_next_284 rfl rfl ?_
                  refine J.icmp_eq 301 d_M_next_285 rfl (fun c => ?_) (fun c => ?_)
                  · rw [if_pos c] at h
                    refine J.iload_n 0 d_M_next_301 rfl rfl ?_
                    refine J.bipush (v := (59 : Int32)) d_M_next_302 kb_59 ?_
                    refine J.icmp_eq 354 d_M_next_304 rfl (fun c => ?_) (fun c => ?_)
                    · rw [if_pos c] at h
                      cases h
                      exact J.vret d_M_next_354 rfl rfl
                    · rw [if_neg c] at h
                      refine J.iload_n 0 d_M_next_307 rfl rfl ?_
                      refine J.bipush (v := (45 : Int32)) d_M_next_308 kb_45 ?_
                      refine J.icmp_eq 354 d_M_next_310 rfl (fun c => ?_) (fun c => ?_)
                      · rw [if_pos c] at h
                        cases h
                        exact J.vret d_M_next_354 rfl rfl
                      · rw [if_neg c] at h
                        refine J.iload_n 0 d_M_next_313 rfl rfl ?_
                        refine J.bipush (v := (43 : Int32)) d_M_next_314 kb_43 ?_
                        refine J.nop (pc' := 316) rfl ?_
                        refine J.icmp_eq 354 d_M_next_316 rfl (fun c => ?_) (fun c => ?_)
                        · rw [if_pos c] at h
                          cases h
                          exact J.vret d_M_next_354 rfl rfl
                        · rw [if_neg c] at h
                          refine J.iload_n 0 d_M_next_319 rfl rfl ?_
                          refine J.bipush (v := (40 : Int32)) d_M_next_320 kb_40 ?_
                          refine J.icmp_eq 354 d_M_next_322 rfl (fun c => ?_) (fun c => ?_)
                          · rw [if_pos c] at h
                            cases h
                            exact J.vret d_M_next_354 rfl rfl
                          · rw [if_neg c] at h
                            refine J.iload_n 0 d_M_next_325 rfl rfl ?_
                            refine J.bipush (v := (41 : Int32)) d_M_next_326 kb_41 ?_
                            refine J.icmp_eq 354 d_M_next_328 rfl (fun c => ?_) (fun c => ?_)
                            · rw [if_pos c] at h
                              cases h
                              exact J.vret d_M_next_354 rfl rfl
                            · rw [if_neg c] at h
                              refine J.iload_n 0 d_M_next_331 rfl rfl ?_
                              refine J.nop (pc' := 332) rfl ?_
                              refine J.bipush (v := (60 : Int32)) d_M_next_332 kb_60 ?_
                              refine J.icmp_eq 354 d_M_next_334 rfl (fun c => ?_) (fun c => ?_)
                              · rw [if_pos c] at h
                                cases h
                                exact J.vret d_M_next_354 rfl rfl
                              · rw [if_neg c] at h
                                refine J.iload_n 0 d_M_next_337 rfl rfl ?_
                                refine J.bipush (v := (61 : Int32)) d_M_next_338 kb_61 ?_
                                refine J.icmp_eq 354 d_M_next_340 rfl (fun c => ?_) (fun c => ?_)
                                · rw [if_pos c] at h
                                  cases h
                                  exact J.vret d_M_next_354 rfl rfl
                                · rw [if_neg c] at h
                                  refine J.iload_n 0 d_M_next_343 rfl rfl ?_
                                  refine J.bipush (v := (62 : Int32)) d_M_next_344 kb_62 ?_
                                  refine J.icmp_eq 354 d_M_next_346 rfl (fun c => ?_) (fun c => ?_)
                                  · rw [if_pos c] at h
                                    cases h
                                    exact J.vret d_M_next_354 rfl rfl
                                  · rw [if_neg c] at h
                                    refine J.nop (pc' := 349) rfl ?_
                                    refine J.aload_n 1 d_M_next_349 rfl rfl ?_
                                    refine J.iconst (v := (4 : Int32)) d_M_next_350 ki_4 ?_
                                    obtain ⟨m54, hm54, h⟩ := jpu_some h
                                    refine J.putI hG d_M_next_351 fl_M_151 fp_10_19 ck_109_19 hm54 ?_
                                    cases h
                                    exact J.vret d_M_next_354 rfl rfl
                  · rw [if_neg c] at h
                    refine J.aload_n 1 d_M_next_288 rfl rfl ?_
                    refine J.dup d_M_next_289 (jr_cat _ _) ?_
                    refine J.getI hG d_M_next_290 fl_M_138 ck_109_17 ?_
                    refine J.iconst (v := (1 : Int32)) d_M_next_293 ki_1 ?_
                    refine J.nop (pc' := 294) rfl ?_
                    refine J.iadd d_M_next_294 ?_
                    obtain ⟨m55, hm55, h⟩ := jpu_some h
                    refine J.putI hG d_M_next_295 fl_M_138 fp_10_17 ck_109_17 hm55 ?_
                    refine J.goto 354 d_M_next_298 rfl ?_
                    cases h
                    exact J.vret d_M_next_354 rfl rfl
                · rw [if_pos c] at h
                  refine J.aload_n 1 d_M_next_264 rfl rfl ?_
                  obtain ⟨x56, m57, zm57, h⟩ := jbd_some h
                  refine J.cVi Y_M_here (As := []) (rest := []) hG d_M_next_265 mi_M_here mv_M_here lk_M_144 ⟨rfl, rfl, Nat.le_of_ble_eq_true rfl⟩ cq_109 cc_10 (c_M_here hG zm57) rfl (Nat.le_trans jcN (Nat.le_of_ble_eq_true rfl)) ?_
                  refine J.bipush (v := (61 : Int32)) d_M_next_268 kb_61 ?_
                  refine J.icmp_ne 280 d_M_next_270 rfl (fun c => ?_) (fun c => ?_)
                  · rw [if_neg c] at h
                    refine J.aload_n 1 d_M_next_280 rfl rfl ?_
                    refine J.getI hG d_M_next_281 fl_M_161 ck_109_20 ?_
                    refine J.iload_n 0 d_M_next_284 rfl rfl ?_
                    refine J.icmp_eq 301 d_M_next_285 rfl (fun c => ?_) (fun c => ?_)
                    · rw [if_pos c] at h
                      refine J.iload_n 0 d_M_next_301 rfl rfl ?_
                      refine J.bipush (v := (59 : Int32)) d_M_next_302 kb_59 ?_
                      refine J.icmp_eq 354 d_M_next_304 rfl (fun c => ?_) (fun c => ?_)
                      · rw [if_pos c] at h
                        cases h
                        exact J.vret d_M_next_354 rfl rfl
                      · rw [if_neg c] at h
                        refine J.iload_n 0 d_M_next_307 rfl rfl ?_
                        refine J.bipush (v := (45 : Int32)) d_M_next_308 kb_45 ?_
                        refine J.icmp_eq 354 d_M_next_310 rfl (fun c => ?_) (fun c => ?_)
                        · rw [if_pos c] at h
                          cases h
                          exact J.vret d_M_next_354 rfl rfl
                        · rw [if_neg c] at h
                          refine J.iload_n 0 d_M_next_313 rfl rfl ?_
                          refine J.bipush (v := (43 : Int32)) d_M_next_314 kb_43 ?_
                          refine J.nop (pc' := 316) rfl ?_
                          refine J.icmp_eq 354 d_M_next_316 rfl (fun c => ?_) (fun c => ?_)
                          · rw [if_pos c] at h
                            cases h
                            exact J.vret d_M_next_354 rfl rfl
                          · rw [if_neg c] at h
                            refine J.iload_n 0 d_M_next_319 rfl rfl ?_
                            refine J.bipush (v := (40 : Int32)) d_M_next_320 kb_40 ?_
                            refine J.icmp_eq 354 d_M_next_322 rfl (fun c => ?_) (fun c => ?_)
                            · rw [if_pos c] at h
                              cases h
                              exact J.vret d_M_next_354 rfl rfl
                            · rw [if_neg c] at h
                              refine J.iload_n 0 d_M_next_325 rfl rfl ?_
                              refine J.bipush (v := (41 : Int32)) d_M_next_326 kb_41 ?_
                              refine J.icmp_eq 354 d_M_next_328 rfl (fun c => ?_) (fun c => ?_)
                              · rw [if_pos c] at h
                                cases h
                                exact J.vret d_M_next_354 rfl rfl
                              · rw [if_neg c] at h
                                refine J.iload_n 0 d_M_next_331 rfl rfl ?_
                                refine J.nop (pc' := 332) rfl ?_
                                refine J.bipush (v := (60 : Int32)) d_M_next_332 kb_60 ?_
                                refine J.icmp_eq 354 d_M_next_334 rfl (fun c => ?_) (fun c => ?_)
                                · rw [if_pos c] at h
                                  cases h
                                  exact J.vret d_M_next_354 rfl rfl
                                · rw [if_neg c] at h
                                  refine J.iload_n 0 d_M_next_337 rfl rfl ?_
                                  refine J.bipush (v := (61 : Int32)) d_M_next_338 kb_61 ?_
                                  refine J.icmp_eq 354 d_M_next_340 rfl (fun c => ?_) (fun c => ?_)
                                  · rw [if_pos c] at h
                                    cases h
                                    exact J.vret d_M_next_354 rfl rfl
                                  · rw [if_neg c] at h
                                    refine J.iload_n 0 d_M_next_343 rfl rfl ?_
                                    refine J.bipush (v := (62 : Int32)) d_M_next_344 kb_62 ?_
                                    refine J.icmp_eq 354 d_M_next_346 rfl (fun c => ?_) (fun c => ?_)
                                    · rw [if_pos c] at h
                                      cases h
                                      exact J.vret d_M_next_354 rfl rfl
                                    · rw [if_neg c] at h
                                      refine J.nop (pc' := 349) rfl ?_
                                      refine J.aload_n 1 d_M_next_349 rfl rfl ?_
                                      refine J.iconst (v := (4 : Int32)) d_M_next_350 ki_4 ?_
                                      obtain ⟨m58, hm58, h⟩ := jpu_some h
                                      refine J.putI hG d_M_next_351 fl_M_151 fp_10_19 ck_109_19 hm58 ?_
                                      cases h
                                      exact J.vret d_M_next_354 rfl rfl
                    · rw [if_neg c] at h
                      refine J.aload_n 1 d_M_next_288 rfl rfl ?_
                      refine J.dup d_M_next_289 (jr_cat _ _) ?_
                      refine J.getI hG d_M_next_290 fl_M_138 ck_109_17 ?_
                      refine J.iconst (v := (1 : Int32)) d_M_next_293 ki_1 ?_
                      refine J.nop (pc' := 294) rfl ?_
                      refine J.iadd d_M_next_294 ?_
                      obtain ⟨m59, hm59, h⟩ := jpu_some h
                      refine J.putI hG d_M_next_295 fl_M_138 fp_10_17 ck_109_17 hm59 ?_
                      refine J.goto 354 d_M_next_298 rfl ?_
                      cases h
                      exact J.vret d_M_next_354 rfl rfl
                  · rw [if_pos c] at h
                    refine J.aload_n 1 d_M_next_273 rfl rfl ?_
                    refine J.nop (pc' := 274) rfl ?_
                    refine J.sipush (v := (258 : Int32)) d_M_next_274 ks_258 ?_
                    obtain ⟨m60, hm60, h⟩ := jpu_some h
                    refine J.putI hG d_M_next_277 fl_M_161 fp_10_20 ck_109_20 hm60 ?_
                    refine J.aload_n 1 d_M_next_280 rfl rfl ?_
                    refine J.getI hG d_M_next_281 fl_M_161 ck_109_20 ?_
                    refine J.iload_n 0 d_M_next_284 rfl rfl ?_
                    refine J.icmp_eq 301 d_M_next_285 rfl (fun c => ?_) (fun c => ?_)
                    · rw [if_pos c] at h
                      refine J.iload_n 0 d_M_next_301 rfl rfl ?_
                      refine J.bipush (v := (59 : Int32)) d_M_next_302 kb_59 ?_
                      refine J.icmp_eq 354 d_M_next_304 rfl (fun c => ?_) (fun c => ?_)
                      · rw [if_pos c] at h
                        cases h
                        exact J.vret d_M_next_354 rfl rfl
                      · rw [if_neg c] at h
                        refine J.iload_n 0 d_M_next_307 rfl rfl ?_
                        refine J.bipush (v := (45 : Int32)) d_M_next_308 kb_45 ?_
                        refine J.icmp_eq 354 d_M_next_310 rfl (fun c => ?_) (fun c => ?_)
                        · rw [if_pos c] at h
                          cases h
                          exact J.vret d_M_next_354 rfl rfl
                        · rw [if_neg c] at h
                          refine J.iload_n 0 d_M_next_313 rfl rfl ?_
                          refine J.bipush (v := (43 : Int32)) d_M_next_314 kb_43 ?_
                          refine J.nop (pc' := 316) rfl ?_
                          refine J.icmp_eq 354 d_M_next_316 rfl (fun c => ?_) (fun c => ?_)
                          · rw [if_pos c] at h
                            cases h
                            exact J.vret d_M_next_354 rfl rfl
                          · rw [if_neg c] at h
                            refine J.iload_n 0 d_M_next_319 rfl rfl ?_
                            refine J.bipush (v := (40 : Int32)) d_M_next_320 kb_40 ?_
                            refine J.icmp_eq 354 d_M_next_322 rfl (fun c => ?_) (fun c => ?_)
                            · rw [if_pos c] at h
                              cases h
                              exact J.vret d_M_next_354 rfl rfl
                            · rw [if_neg c] at h
                              refine J.iload_n 0 d_M_next_325 rfl rfl ?_
                              refine J.bipush (v := (41 : Int32)) d_M_next_326 kb_41 ?_
                              refine J.icmp_eq 354 d_M_next_328 rfl (fun c => ?_) (fun c => ?_)
                              · rw [if_pos c] at h
                                cases h
                                exact J.vret d_M_next_354 rfl rfl
                              · rw [if_neg c] at h
                                refine J.iload_n 0 d_M_next_331 rfl rfl ?_
                                refine J.nop (pc' := 332) rfl ?_
                                refine J.bipush (v := (60 : Int32)) d_M_next_332 kb_60 ?_
                                refine J.icmp_eq 354 d_M_next_334 rfl (fun c => ?_) (fun c => ?_)
                                · rw [if_pos c] at h
                                  cases h
                                  exact J.vret d_M_next_354 rfl rfl
                                · rw [if_neg c] at h
                                  refine J.iload_n 0 d_M_next_337 rfl rfl ?_
                                  refine J.bipush (v := (61 : Int32)) d_M_next_338 kb_61 ?_
                                  refine J.icmp_eq 354 d_M_next_340 rfl (fun c => ?_) (fun c => ?_)
                                  · rw [if_pos c] at h
                                    cases h
                                    exact J.vret d_M_next_354 rfl rfl
                                  · rw [if_neg c] at h
                                    refine J.iload_n 0 d_M_next_343 rfl rfl ?_
                                    refine J.bipush (v := (62 : Int32)) d_M_next_344 kb_62 ?_
                                    refine J.icmp_eq 354 d_M_next_346 rfl (fun c => ?_) (fun c => ?_)
                                    · rw [if_pos c] at h
                                      cases h
                                      exact J.vret d_M_next_354 rfl rfl
                                    · rw [if_neg c] at h
                                      refine J.nop (pc' := 349) rfl ?_
                                      refine J.aload_n 1 d_M_next_349 rfl rfl ?_
                                      refine J.iconst (v := (4 : Int32)) d_M_next_350 ki_4 ?_
                                      obtain ⟨m61, hm61, h⟩ := jpu_some h
                                      refine J.putI hG d_M_next_351 fl_M_151 fp_10_19 ck_109_19 hm61 ?_
                                      cases h
                                      exact J.vret d_M_next_354 rfl rfl
                    · rw [if_neg c] at h
                      refine J.aload_n 1 d_M_next_288 rfl rfl ?_
                      refine J.dup d_M_next_289 (jr_cat _ _) ?_
                      refine J.nop (pc' := 290) rfl ?_
                      refine J.getI hG d_M_next_290 fl_M_138 ck_109_17 ?_
                      refine J.iconst (v := (1 : Int32)) d_M_next_293 ki_1 ?_
                      refine J.iadd d_M_next_294 ?_
                      obtain ⟨m62, hm62, h⟩ := jpu_some h
                      refine J.putI hG d_M_next_295 fl_M_138 fp_10_17 ck_109_17 hm62 ?_
                      refine J.goto 354 d_M_next_298 rfl ?_
                      cases h
                      exact J.vret d_M_next_354 rfl rfl
              · rw [if_pos c] at h
                refine J.aload_n 1 d_M_next_248 rfl rfl ?_
                refine J.nop (pc' := 249) rfl ?_
                refine J.sipush (v := (257 : Int32)) d_M_next_249 ks_257 ?_
                obtain ⟨m63, hm63, h⟩ := jpu_some h
                refine J.putI hG d_M_next_252 fl_M_161 fp_10_20 ck_109_20 hm63 ?_
                refine J.goto 280 d_M_next_255 rfl ?_
                refine J.aload_n 1 d_M_next_280 rfl rfl ?_
                refine J.getI hG d_M_next_281 fl_M_161 ck_109_20 ?_
                refine J.iload_n 0 d_M_next_284 rfl rfl ?_
                refine J.icmp_eq 301 d_M_next_285 rfl (fun c => ?_) (fun c => ?_)
                · rw [if_pos c] at h
                  refine J.iload_n 0 d_M_next_301 rfl rfl ?_
                  refine J.bipush (v := (59 : Int32)) d_M_next_302 kb_59 ?_
                  refine J.icmp_eq 354 d_M_next_304 rfl (fun c => ?_) (fun c => ?_)
                  · rw [if_pos c] at h
                    cases h
                    exact J.vret d_M_next_354 rfl rfl
                  · rw [if_neg c] at h
                    refine J.iload_n 0 d_M_next_307 rfl rfl ?_
                    refine J.bipush (v := (45 : Int32)) d_M_next_308 kb_45 ?_
                    refine J.icmp_eq 354 d_M_next_310 rfl (fun c => ?_) (fun c => ?_)
                    · rw [if_pos c] at h
                      cases h
                      exact J.vret d_M_next_354 rfl rfl
                    · rw [if_neg c] at h
                      refine J.iload_n 0 d_M_next_313 rfl rfl ?_
                      refine J.bipush (v := (43 : Int32)) d_M_next_314 kb_43 ?_
                      refine J.nop (pc' := 316) rfl ?_
                      refine J.icmp_eq 354 d_M_next_316 rfl (fun c => ?_) (fun c => ?_)
                      · rw [if_pos c] at h
                        cases h
                        exact J.vret d_M_next_354 rfl rfl
                      · rw [if_neg c] at h
                        refine J.iload_n 0 d_M_next_319 rfl rfl ?_
                        refine J.bipush (v := (40 : Int32)) d_M_next_320 kb_40 ?_
                        refine J.icmp_eq 354 d_M_next_322 rfl (fun c => ?_) (fun c => ?_)
                        · rw [if_pos c] at h
                          cases h
                          exact J.vret d_M_next_354 rfl rfl
                        · rw [if_neg c] at h
                          refine J.iload_n 0 d_M_next_325 rfl rfl ?_
                          refine J.bipush (v := (41 : Int32)) d_M_next_326 kb_41 ?_
                          refine J.icmp_eq 354 d_M_next_328 rfl (fun c => ?_) (fun c => ?_)
                          · rw [if_pos c] at h
                            cases h
                            exact J.vret d_M_next_354 rfl rfl
                          · rw [if_neg c] at h
                            refine J.iload_n 0 d_M_next_331 rfl rfl ?_
                            refine J.nop (pc' := 332) rfl ?_
                            refine J.bipush (v := (60 : Int32)) d_M_next_332 kb_60 ?_
                            refine J.icmp_eq 354 d_M_next_334 rfl (fun c => ?_) (fun c => ?_)
                            · rw [if_pos c] at h
                              cases h
                              exact J.vret d_M_next_354 rfl rfl
                            · rw [if_neg c] at h
                              refine J.iload_n 0 d_M_next_337 rfl rfl ?_
                              refine J.bipush (v := (61 : Int32)) d_M_next_338 kb_61 ?_
                              refine J.icmp_eq 354 d_M_next_340 rfl (fun c => ?_) (fun c => ?_)
                              · rw [if_pos c] at h
                                cases h
                                exact J.vret d_M_next_354 rfl rfl
                              · rw [if_neg c] at h
                                refine J.iload_n 0 d_M_next_343 rfl rfl ?_
                                refine J.bipush (v := (62 : Int32)) d_M_next_344 kb_62 ?_
                                refine J.icmp_eq 354 d_M_next_346 rfl (fun c => ?_) (fun c => ?_)
                                · rw [if_pos c] at h
                                  cases h
                                  exact J.vret d_M_next_354 rfl rfl
                                · rw [if_neg c] at h
                                  refine J.nop (pc' := 349) rfl ?_
                                  refine J.aload_n 1 d_M_next_349 rfl rfl ?_
                                  refine J.iconst (v := (4 : Int32)) d_M_next_350 ki_4 ?_
                                  obtain ⟨m64, hm64, h⟩ := jpu_some h
                                  refine J.putI hG d_M_next_351 fl_M_151 fp_10_19 ck_109_19 hm64 ?_
                                  cases h
                                  exact J.vret d_M_next_354 rfl rfl
                · rw [if_neg c] at h
                  refine J.aload_n 1 d_M_next_288 rfl rfl ?_
                  refine J.dup d_M_next_289 (jr_cat _ _) ?_
                  refine J.getI hG d_M_next_290 fl_M_138 ck_109_17 ?_
                  refine J.iconst (v := (1 : Int32)) d_M_next_293 ki_1 ?_
                  refine J.nop (pc' := 294) rfl ?_
                  refine J.iadd d_M_next_294 ?_
                  obtain ⟨m65, hm65, h⟩ := jpu_some h
                  refine J.putI hG d_M_next_295 fl_M_138 fp_10_17 ck_109_17 hm65 ?_
                  refine J.goto 354 d_M_next_298 rfl ?_
                  cases h
                  exact J.vret d_M_next_354 rfl rfl
          · rw [if_pos c] at h
            refine J.aload_n 1 d_M_next_223 rfl rfl ?_
            refine J.sipush (v := (256 : Int32)) d_M_next_224 ks_256 ?_
            obtain ⟨m66, hm66, h⟩ := jpu_some h
            refine J.putI hG d_M_next_227 fl_M_161 fp_10_20 ck_109_20 hm66 ?_
            refine J.goto 280 d_M_next_230 rfl ?_
            refine J.aload_n 1 d_M_next_280 rfl rfl ?_
            refine J.getI hG d_M_next_281 fl_M_161 ck_109_20 ?_
            refine J.iload_n 0 d_M_next_284 rfl rfl ?_
            refine J.icmp_eq 301 d_M_next_285 rfl (fun c => ?_) (fun c => ?_)
            · rw [if_pos c] at h
              refine J.iload_n 0 d_M_next_301 rfl rfl ?_
              refine J.bipush (v := (59 : Int32)) d_M_next_302 kb_59 ?_
              refine J.icmp_eq 354 d_M_next_304 rfl (fun c => ?_) (fun c => ?_)
              · rw [if_pos c] at h
                cases h
                exact J.vret d_M_next_354 rfl rfl
              · rw [if_neg c] at h
                refine J.iload_n 0 d_M_next_307 rfl rfl ?_
                refine J.bipush (v := (45 : Int32)) d_M_next_308 kb_45 ?_
                refine J.icmp_eq 354 d_M_next_310 rfl (fun c => ?_) (fun c => ?_)
                · rw [if_pos c] at h
                  cases h
                  exact J.vret d_M_next_354 rfl rfl
                · rw [if_neg c] at h
                  refine J.iload_n 0 d_M_next_313 rfl rfl ?_
                  refine J.bipush (v := (43 : Int32)) d_M_next_314 kb_43 ?_
                  refine J.nop (pc' := 316) rfl ?_
                  refine J.icmp_eq 354 d_M_next_316 rfl (fun c => ?_) (fun c => ?_)
                  · rw [if_pos c] at h
                    cases h
                    exact J.vret d_M_next_354 rfl rfl
                  · rw [if_neg c] at h
                    refine J.iload_n 0 d_M_next_319 rfl rfl ?_
                    refine J.bipush (v := (40 : Int32)) d_M_next_320 kb_40 ?_
                    refine J.icmp_eq 354 d_M_next_322 rfl (fun c => ?_) (fun c => ?_)
                    · rw [if_pos c] at h
                      cases h
                      exact J.vret d_M_next_354 rfl rfl
                    · rw [if_neg c] at h
                      refine J.iload_n 0 d_M_next_325 rfl rfl ?_
                      refine J.bipush (v := (41 : Int32)) d_M_next_326 kb_41 ?_
                      refine J.icmp_eq 354 d_M_next_328 rfl (fun c => ?_) (fun c => ?_)
                      · rw [if_pos c] at h
                        cases h
                        exact J.vret d_M_next_354 rfl rfl
                      · rw [if_neg c] at h
                        refine J.iload_n 0 d_M_next_331 rfl rfl ?_
                        refine J.nop (pc' := 332) rfl ?_
                        refine J.bipush (v := (60 : Int32)) d_M_next_332 kb_60 ?_
                        refine J.icmp_eq 354 d_M_next_334 rfl (fun c => ?_) (fun c => ?_)
                        · rw [if_pos c] at h
                          cases h
                          exact J.vret d_M_next_354 rfl rfl
                        · rw [if_neg c] at h
                          refine J.iload_n 0 d_M_next_337 rfl rfl ?_
                          refine J.bipush (v := (61 : Int32)) d_M_next_338 kb_61 ?_
                          refine J.icmp_eq 354 d_M_next_340 rfl (fun c => ?_) (fun c => ?_)
                          · rw [if_pos c] at h
                            cases h
                            exact J.vret d_M_next_354 rfl rfl
                          · rw [if_neg c] at h
                            refine J.iload_n 0 d_M_next_343 rfl rfl ?_
                            refine J.bipush (v := (62 : Int32)) d_M_next_344 kb_62 ?_
                            refine J.icmp_eq 354 d_M_next_346 rfl (fun c => ?_) (fun c => ?_)
                            · rw [if_pos c] at h
                              cases h
                              exact J.vret d_M_next_354 rfl rfl
                            · rw [if_neg c] at h
                              refine J.nop (pc' := 349) rfl ?_
                              refine J.aload_n 1 d_M_next_349 rfl rfl ?_
                              refine J.iconst (v := (4 : Int32)) d_M_next_350 ki_4 ?_
                              obtain ⟨m67, hm67, h⟩ := jpu_some h
                              refine J.putI hG d_M_next_351 fl_M_151 fp_10_19 ck_109_19 hm67 ?_
                              cases h
                              exact J.vret d_M_next_354 rfl rfl
            · rw [if_neg c] at h
              refine J.aload_n 1 d_M_next_288 rfl rfl ?_
              refine J.dup d_M_next_289 (jr_cat _ _) ?_
              refine J.getI hG d_M_next_290 fl_M_138 ck_109_17 ?_
              refine J.iconst (v := (1 : Int32)) d_M_next_293 ki_1 ?_
              refine J.nop (pc' := 294) rfl ?_
              refine J.iadd d_M_next_294 ?_
              obtain ⟨m68, hm68, h⟩ := jpu_some h
              refine J.putI hG d_M_next_295 fl_M_138 fp_10_17 ck_109_17 hm68 ?_
              refine J.goto 354 d_M_next_298 rfl ?_
              cases h
              exact J.vret d_M_next_354 rfl rfl
      · rw [if_neg c] at h
        refine J.aload_n 1 d_M_next_118 rfl rfl ?_
        refine J.iconst (v := (1 : Int32)) d_M_next_119 ki_1 ?_
        obtain ⟨m69, hm69, h⟩ := jpu_some h
        refine J.putI hG d_M_next_120 fl_M_151 fp_10_19 ck_109_19 hm69 ?_
        refine J.aload_n 1 d_M_next_123 rfl rfl ?_
        refine J.iconst (v := (0 : Int32)) d_M_next_124 ki_0 ?_
        refine J.nop (pc' := 125) rfl ?_
        obtain ⟨m70, hm70, h⟩ := jpu_some h
        refine J.putI hG d_M_next_125 fl_M_161 fp_10_20 ck_109_20 hm70 ?_
        refine J.sub (ls' := [(0, jr G 109)]) [1] rfl ?_
        refine jlp_M_next_128 hG _ ?_ _ m70 _ h
        intro m81 r h
        cases h
        exact J.vret d_M_next_187 rfl rfl
    · rw [if_neg c] at h
      refine J.sub (ls' := [(0, jr G 109)]) [1] rfl ?_
      refine jlp_M_next_62 hG _ ?_ _ m12 _ h
      intro m87 r h
      refine J.aload_n 0 d_M_next_85 rfl rfl ?_
      refine J.aload_n 0 d_M_next_86 rfl rfl ?_
      obtain ⟨x88, m89, zm89, h⟩ := jbd_some h
      refine J.cVi Y_M_word (As := []) (rest := [jr G 109]) hG d_M_next_87 mi_M_word mv_M_word lk_M_158 ⟨rfl, rfl, Nat.le_of_ble_eq_true rfl⟩ cq_109 cc_10 (c_M_word hG zm89) rfl (Nat.le_trans (jcR jcN) (Nat.le_of_ble_eq_true rfl)) ?_
      obtain ⟨m90, hm90, h⟩ := jpu_some h
      refine J.putI hG d_M_next_90 fl_M_161 fp_10_20 ck_109_20 hm90 ?_
      refine J.aload_n 0 d_M_next_93 rfl rfl ?_
      refine J.aload_n 0 d_M_next_94 rfl rfl ?_
      refine J.getI hG d_M_next_95 fl_M_161 ck_109_20 ?_
      refine J.iconst (v := (-1 : Int32)) d_M_next_98 ki_m1 ?_
      refine J.nop (pc' := 99) rfl ?_
      refine J.icmp_ne 106 d_M_next_99 rfl (fun c => ?_) (fun c => ?_)
      · rw [if_neg c] at h
        refine J.iconst (v := (0 : Int32)) d_M_next_106 ki_0 ?_
        obtain ⟨m91, hm91, h⟩ := jpu_some h
        refine J.putI hG d_M_next_107 fl_M_151 fp_10_19 ck_109_19 hm91 ?_
        cases h
        exact J.vret d_M_next_110 rfl rfl
      · rw [if_pos c] at h
        refine J.iconst (v := (4 : Int32)) d_M_next_102 ki_4 ?_
        refine J.goto 107 d_M_next_103 rfl ?_
        obtain ⟨m92, hm92, h⟩ := jpu_some h
        refine J.putI hG d_M_next_107 fl_M_151 fp_10_19 ck_109_19 hm92 ?_
        cases h
        exact J.vret d_M_next_110 rfl rfl
  · rw [if_pos c] at h
    refine J.aload_n 1 d_M_next_49 rfl rfl ?_
    refine J.iconst (v := (3 : Int32)) d_M_next_50 ki_3 ?_
    obtain ⟨m93, hm93, h⟩ := jpu_some h
    refine J.putI hG d_M_next_51 fl_M_151 fp_10_19 ck_109_19 hm93 ?_
    cases h
    exact J.vret d_M_next_54 rfl rfl

def f_M_wrong (v1 : Int32) (m : jMem) : Option (Unit × jMem) :=
  if (m 109 21) = 0 then
    jpu m 109 21 v1 fun m1 =>
    jpu m1 109 22 (m1 109 18) fun m2 =>
    some ((), m2)
  else
    some ((), m)
theorem c_M_wrong {G : jG} (hG : jFul G) {v1 : Int32} {m : jMem} {r : (Unit × jMem)} (h : f_M_wrong v1 m = some r) : jCt G Y_M_wrong [jr G 109, .int v1] m (jrv r) := by
  refine jCt.ov (ls := [(0, jr G 109), (1, .int v1)]) mi_M_wrong (jAvR (jAvI jAvN)) (Nat.le_of_ble_eq_true rfl) ?_ ⟨rfl, rfl⟩
  unfold f_M_wrong at h
  refine J.aload_n 0 d_M_wrong_0 rfl rfl ?_
  refine J.getI hG d_M_wrong_1 fl_M_178 ck_109_21 ?_
  refine J.if_eq 8 d_M_wrong_4 rfl (fun c => ?_) (fun c => ?_)
  · rw [if_pos c] at h
    refine J.aload_n 0 d_M_wrong_8 rfl rfl ?_
    refine J.iload_n 1 d_M_wrong_9 rfl rfl ?_
    obtain ⟨m1, hm1, h⟩ := jpu_some h
    refine J.putI hG d_M_wrong_10 fl_M_178 fp_10_21 ck_109_21 hm1 ?_
    refine J.aload_n 0 d_M_wrong_13 rfl rfl ?_
    refine J.aload_n 0 d_M_wrong_14 rfl rfl ?_
    refine J.getI hG d_M_wrong_15 fl_M_148 ck_109_18 ?_
    obtain ⟨m2, hm2, h⟩ := jpu_some h
    refine J.putI hG d_M_wrong_18 fl_M_181 fp_10_22 ck_109_22 hm2 ?_
    cases h
    exact J.vret d_M_wrong_21 rfl rfl
  · rw [if_neg c] at h
    cases h
    exact J.vret d_M_wrong_7 rfl rfl

def f_M_isSign (v1 : Int32) (m : jMem) : Option (Int32 × jMem) :=
  if (m 109 19) = (2 : Int32) then
    if (m 109 20) = v1 then
      some ((1 : Int32), m)
    else
      some ((0 : Int32), m)
  else
    some ((0 : Int32), m)
theorem c_M_isSign {G : jG} (hG : jFul G) {v1 : Int32} {m : jMem} {r : (Int32 × jMem)} (h : f_M_isSign v1 m = some r) : jCt G Y_M_isSign [jr G 109, .int v1] m (jri r) := by
  refine jCt.ov (ls := [(0, jr G 109), (1, .int v1)]) mi_M_isSign (jAvR (jAvI jAvN)) (Nat.le_of_ble_eq_true rfl) ?_ ⟨rfl, rfl⟩
  unfold f_M_isSign at h
  refine J.aload_n 0 d_M_isSign_0 rfl rfl ?_
  refine J.getI hG d_M_isSign_1 fl_M_151 ck_109_19 ?_
  refine J.iconst (v := (2 : Int32)) d_M_isSign_4 ki_2 ?_
  refine J.icmp_ne 20 d_M_isSign_5 rfl (fun c => ?_) (fun c => ?_)
  · rw [if_neg c] at h
    refine J.iconst (v := (0 : Int32)) d_M_isSign_20 ki_0 ?_
    cases h
    exact J.iret d_M_isSign_21 rfl rfl rfl
  · rw [if_pos c] at h
    refine J.aload_n 0 d_M_isSign_8 rfl rfl ?_
    refine J.getI hG d_M_isSign_9 fl_M_161 ck_109_20 ?_
    refine J.iload_n 1 d_M_isSign_12 rfl rfl ?_
    refine J.icmp_ne 20 d_M_isSign_13 rfl (fun c => ?_) (fun c => ?_)
    · rw [if_neg c] at h
      refine J.iconst (v := (0 : Int32)) d_M_isSign_20 ki_0 ?_
      cases h
      exact J.iret d_M_isSign_21 rfl rfl rfl
    · rw [if_pos c] at h
      refine J.nop (pc' := 16) rfl ?_
      refine J.iconst (v := (1 : Int32)) d_M_isSign_16 ki_1 ?_
      refine J.goto 21 d_M_isSign_17 rfl ?_
      cases h
      exact J.iret d_M_isSign_21 rfl rfl rfl

def lp_M_writers_2 (v1 : Int32) (k70 : jMem → Option (Int32 × jMem)) (k88 : Int32 → jMem → Option (Int32 × jMem)) : Nat → Int32 → jMem → Option (Int32 × jMem)
  | 0, _, _ => none
  | n + 1, v2, m =>
    if (m 109 21) = 0 then
      if (m 109 19) = (1 : Int32) then
        if (m 109 20) < (6 : Int32) then
          if ((v1 >>> ((m 109 20) &&& 31)) &&& (1 : Int32)) = (1 : Int32) then
            jbd (f_M_wrong (3 : Int32) m) fun u1 m2 =>
            if (m2 109 21) = 0 then
              jbd (f_M_next m2) fun u3 m4 =>
              lp_M_writers_2 v1 k70 k88 n (v2 ||| ((1 : Int32) <<< ((m2 109 20) &&& 31))) m4
            else
              k70 m2
          else
            if ((v2 >>> ((m 109 20) &&& 31)) &&& (1 : Int32)) = (1 : Int32) then
              jbd (f_M_wrong (3 : Int32) m) fun u7 m8 =>
              if (m8 109 21) = 0 then
                jbd (f_M_next m8) fun u9 m10 =>
                lp_M_writers_2 v1 k70 k88 n (v2 ||| ((1 : Int32) <<< ((m8 109 20) &&& 31))) m10
              else
                k70 m8
            else
              if (m 109 21) = 0 then
                jbd (f_M_next m) fun u5 m6 =>
                lp_M_writers_2 v1 k70 k88 n (v2 ||| ((1 : Int32) <<< ((m 109 20) &&& 31))) m6
              else
                k70 m
        else
          jbd (f_M_wrong (2 : Int32) m) fun u11 m12 =>
          if (m12 109 21) = 0 then
            jbd (f_M_next m12) fun u13 m14 =>
            lp_M_writers_2 v1 k70 k88 n (v2 ||| ((1 : Int32) <<< ((m12 109 20) &&& 31))) m14
          else
            k70 m12
      else
        k88 v2 m
    else
      k88 v2 m
def f_M_writers (v1 : Int32) (m : jMem) : Option (Int32 × jMem) :=
  lp_M_writers_2 v1 (fun m15 =>
    some ((0 : Int32), m15)) (fun w17 m16 =>
    some (w17, m16)) 5000 (0 : Int32) m
theorem jlp_M_writers_2 {G : jG} (hG : jFul G) (v1 : Int32) (k70 : jMem → Option (Int32 × jMem)) (k88 : Int32 → jMem → Option (Int32 × jMem))
    (hk70 : ∀ (m : jMem) (r : (Int32 × jMem)), k70 m = some r → J G Y_M_writers 70 [] [] m (jri r))
    (hk88 : ∀ (v2 : Int32) (m : jMem) (r : (Int32 × jMem)), k88 v2 m = some r → J G Y_M_writers 88 [(2, .int v2)] [] m (jri r)) : ∀ (n : Nat) (v2 : Int32) (m : jMem) (r : (Int32 × jMem)), lp_M_writers_2 v1 k70 k88 n v2 m = some r → J G Y_M_writers 2 [(0, jr G 109), (1, .int v1), (2, .int v2)] [] m (jri r) := by
  intro n
  induction n with
  | zero => intro v2 m r h; unfold lp_M_writers_2 at h; cases h
  | succ n ih =>
    intro v2 m r h
    unfold lp_M_writers_2 at h
    refine J.aload_n 0 d_M_writers_2 rfl rfl ?_
    refine J.getI hG d_M_writers_3 fl_M_178 ck_109_21 ?_
    refine J.if_ne 88 d_M_writers_6 rfl (fun c => ?_) (fun c => ?_)
    · rw [if_neg c] at h
      exact J.sub (ls' := [(2, .int v2)]) [2] rfl (hk88 v2 m _ h)
    · rw [if_pos c] at h
      refine J.aload_n 0 d_M_writers_9 rfl rfl ?_
      refine J.getI hG d_M_writers_10 fl_M_151 ck_109_19 ?_
      refine J.iconst (v := (1 : Int32)) d_M_writers_13 ki_1 ?_
      refine J.icmp_ne 88 d_M_writers_14 rfl (fun c => ?_) (fun c => ?_)
      · rw [if_neg c] at h
        exact J.sub (ls' := [(2, .int v2)]) [2] rfl (hk88 v2 m _ h)
      · rw [if_pos c] at h
        refine J.aload_n 0 d_M_writers_17 rfl rfl ?_
        refine J.nop (pc' := 18) rfl ?_
        refine J.getI hG d_M_writers_18 fl_M_161 ck_109_20 ?_
        refine J.bipush (v := (6 : Int32)) d_M_writers_21 kb_6 ?_
        refine J.icmp_lt 34 d_M_writers_23 rfl (fun c => ?_) (fun c => ?_)
        · rw [if_pos c] at h
          refine J.iload_n 1 d_M_writers_34 rfl rfl ?_
          refine J.aload_n 0 d_M_writers_35 rfl rfl ?_
          refine J.getI hG d_M_writers_36 fl_M_161 ck_109_20 ?_
          refine J.ishr d_M_writers_39 ?_
          refine J.iconst (v := (1 : Int32)) d_M_writers_40 ki_1 ?_
          refine J.iand d_M_writers_41 ?_
          refine J.iconst (v := (1 : Int32)) d_M_writers_42 ki_1 ?_
          refine J.icmp_eq 58 d_M_writers_43 rfl (fun c => ?_) (fun c => ?_)
          · rw [if_pos c] at h
            refine J.aload_n 0 d_M_writers_58 rfl rfl ?_
            refine J.iconst (v := (3 : Int32)) d_M_writers_59 ki_3 ?_
            obtain ⟨u1, m2, zm2, h⟩ := jbd_some h
            refine J.cVv Y_M_wrong (As := [.int (3 : Int32)]) (rest := []) hG d_M_writers_60 mi_M_wrong mv_M_wrong lk_M_184 ⟨rfl, rfl, Nat.le_of_ble_eq_true rfl⟩ cq_109 cc_10 (c_M_wrong hG zm2) rfl (Nat.le_trans jcN (Nat.le_of_ble_eq_true rfl)) ?_
            refine J.aload_n 0 d_M_writers_63 rfl rfl ?_
            refine J.getI hG d_M_writers_64 fl_M_178 ck_109_21 ?_
            refine J.if_eq 72 d_M_writers_67 rfl (fun c => ?_) (fun c => ?_)
            · rw [if_pos c] at h
              refine J.iload_n 2 d_M_writers_72 rfl rfl ?_
              refine J.iconst (v := (1 : Int32)) d_M_writers_73 ki_1 ?_
              refine J.aload_n 0 d_M_writers_74 rfl rfl ?_
              refine J.getI hG d_M_writers_75 fl_M_161 ck_109_20 ?_
              refine J.ishl d_M_writers_78 ?_
              refine J.ior d_M_writers_79 ?_
              refine J.istore_n (lv := [(2, .int (v2 ||| ((1 : Int32) <<< ((m2 109 20) &&& 31)))), (0, jr G 109), (1, .int v1)]) d_M_writers_80 rfl (by decide) rfl ?_
              refine J.aload_n 1 d_M_writers_81 rfl rfl ?_
              refine J.nop (pc' := 82) rfl ?_
              obtain ⟨u3, m4, zm4, h⟩ := jbd_some h
              refine J.cVv Y_M_next (As := []) (rest := []) hG d_M_writers_82 mi_M_next mv_M_next lk_M_188 ⟨rfl, rfl, Nat.le_of_ble_eq_true rfl⟩ cq_109 cc_10 (c_M_next hG zm4) rfl (Nat.le_trans jcN (Nat.le_of_ble_eq_true rfl)) ?_
              refine J.goto 2 d_M_writers_85 rfl ?_
              exact J.sub (ls' := [(0, jr G 109), (1, .int v1), (2, .int (v2 ||| ((1 : Int32) <<< ((m2 109 20) &&& 31))))]) [1, 2, 0] rfl (ih (v2 ||| ((1 : Int32) <<< ((m2 109 20) &&& 31))) m4 _ h)
            · rw [if_neg c] at h
              exact J.sub (ls' := []) [] rfl (hk70  m2 _ h)
          · rw [if_neg c] at h
            refine J.nop (pc' := 46) rfl ?_
            refine J.iload_n 2 d_M_writers_46 rfl rfl ?_
            refine J.aload_n 0 d_M_writers_47 rfl rfl ?_
            refine J.getI hG d_M_writers_48 fl_M_161 ck_109_20 ?_
            refine J.ishr d_M_writers_51 ?_
            refine J.iconst (v := (1 : Int32)) d_M_writers_52 ki_1 ?_
            refine J.iand d_M_writers_53 ?_
            refine J.iconst (v := (1 : Int32)) d_M_writers_54 ki_1 ?_
            refine J.icmp_ne 63 d_M_writers_55 rfl (fun c => ?_) (fun c => ?_)
            · rw [if_neg c] at h
              refine J.aload_n 0 d_M_writers_63 rfl rfl ?_
              refine J.getI hG d_M_writers_64 fl_M_178 ck_109_21 ?_
              refine J.if_eq 72 d_M_writers_67 rfl (fun c => ?_) (fun c => ?_)
              · rw [if_pos c] at h
                refine J.iload_n 2 d_M_writers_72 rfl rfl ?_
                refine J.iconst (v := (1 : Int32)) d_M_writers_73 ki_1 ?_
                refine J.aload_n 0 d_M_writers_74 rfl rfl ?_
                refine J.getI hG d_M_writers_75 fl_M_161 ck_109_20 ?_
                refine J.ishl d_M_writers_78 ?_
                refine J.ior d_M_writers_79 ?_
                refine J.istore_n (lv := [(2, .int (v2 ||| ((1 : Int32) <<< ((m 109 20) &&& 31)))), (0, jr G 109), (1, .int v1)]) d_M_writers_80 rfl (by decide) rfl ?_
                refine J.aload_n 1 d_M_writers_81 rfl rfl ?_
                refine J.nop (pc' := 82) rfl ?_
                obtain ⟨u5, m6, zm6, h⟩ := jbd_some h
                refine J.cVv Y_M_next (As := []) (rest := []) hG d_M_writers_82 mi_M_next mv_M_next lk_M_188 ⟨rfl, rfl, Nat.le_of_ble_eq_true rfl⟩ cq_109 cc_10 (c_M_next hG zm6) rfl (Nat.le_trans jcN (Nat.le_of_ble_eq_true rfl)) ?_
                refine J.goto 2 d_M_writers_85 rfl ?_
                exact J.sub (ls' := [(0, jr G 109), (1, .int v1), (2, .int (v2 ||| ((1 : Int32) <<< ((m 109 20) &&& 31))))]) [1, 2, 0] rfl (ih (v2 ||| ((1 : Int32) <<< ((m 109 20) &&& 31))) m6 _ h)
              · rw [if_neg c] at h
                exact J.sub (ls' := []) [] rfl (hk70  m _ h)
            · rw [if_pos c] at h
              refine J.nop (pc' := 58) rfl ?_
              refine J.aload_n 0 d_M_writers_58 rfl rfl ?_
              refine J.iconst (v := (3 : Int32)) d_M_writers_59 ki_3 ?_
              obtain ⟨u7, m8, zm8, h⟩ := jbd_some h
              refine J.cVv Y_M_wrong (As := [.int (3 : Int32)]) (rest := []) hG d_M_writers_60 mi_M_wrong mv_M_wrong lk_M_184 ⟨rfl, rfl, Nat.le_of_ble_eq_true rfl⟩ cq_109 cc_10 (c_M_wrong hG zm8) rfl (Nat.le_trans jcN (Nat.le_of_ble_eq_true rfl)) ?_
              refine J.aload_n 0 d_M_writers_63 rfl rfl ?_
              refine J.getI hG d_M_writers_64 fl_M_178 ck_109_21 ?_
              refine J.if_eq 72 d_M_writers_67 rfl (fun c => ?_) (fun c => ?_)
              · rw [if_pos c] at h
                refine J.iload_n 2 d_M_writers_72 rfl rfl ?_
                refine J.iconst (v := (1 : Int32)) d_M_writers_73 ki_1 ?_
                refine J.aload_n 0 d_M_writers_74 rfl rfl ?_
                refine J.getI hG d_M_writers_75 fl_M_161 ck_109_20 ?_
                refine J.ishl d_M_writers_78 ?_
                refine J.ior d_M_writers_79 ?_
                refine J.istore_n (lv := [(2, .int (v2 ||| ((1 : Int32) <<< ((m8 109 20) &&& 31)))), (0, jr G 109), (1, .int v1)]) d_M_writers_80 rfl (by decide) rfl ?_
                refine J.aload_n 1 d_M_writers_81 rfl rfl ?_
                refine J.nop (pc' := 82) rfl ?_
                obtain ⟨u9, m10, zm10, h⟩ := jbd_some h
                refine J.cVv Y_M_next (As := []) (rest := []) hG d_M_writers_82 mi_M_next mv_M_next lk_M_188 ⟨rfl, rfl, Nat.le_of_ble_eq_true rfl⟩ cq_109 cc_10 (c_M_next hG zm10) rfl (Nat.le_trans jcN (Nat.le_of_ble_eq_true rfl)) ?_
                refine J.goto 2 d_M_writers_85 rfl ?_
                exact J.sub (ls' := [(0, jr G 109), (1, .int v1), (2, .int (v2 ||| ((1 : Int32) <<< ((m8 109 20) &&& 31))))]) [1, 2, 0] rfl (ih (v2 ||| ((1 : Int32) <<< ((m8 109 20) &&& 31))) m10 _ h)
              · rw [if_neg c] at h
                exact J.sub (ls' := []) [] rfl (hk70  m8 _ h)
        · rw [if_neg c] at h
          refine J.aload_n 0 d_M_writers_26 rfl rfl ?_
          refine J.iconst (v := (2 : Int32)) d_M_writers_27 ki_2 ?_
          obtain ⟨u11, m12, zm12, h⟩ := jbd_some h
          refine J.cVv Y_M_wrong (As := [.int (2 : Int32)]) (rest := []) hG d_M_writers_28 mi_M_wrong mv_M_wrong lk_M_184 ⟨rfl, rfl, Nat.le_of_ble_eq_true rfl⟩ cq_109 cc_10 (c_M_wrong hG zm12) rfl (Nat.le_trans jcN (Nat.le_of_ble_eq_true rfl)) ?_
          refine J.goto 63 d_M_writers_31 rfl ?_
          refine J.aload_n 0 d_M_writers_63 rfl rfl ?_
          refine J.getI hG d_M_writers_64 fl_M_178 ck_109_21 ?_
          refine J.if_eq 72 d_M_writers_67 rfl (fun c => ?_) (fun c => ?_)
          · rw [if_pos c] at h
            refine J.iload_n 2 d_M_writers_72 rfl rfl ?_
            refine J.iconst (v := (1 : Int32)) d_M_writers_73 ki_1 ?_
            refine J.aload_n 0 d_M_writers_74 rfl rfl ?_
            refine J.getI hG d_M_writers_75 fl_M_161 ck_109_20 ?_
            refine J.ishl d_M_writers_78 ?_
            refine J.ior d_M_writers_79 ?_
            refine J.istore_n (lv := [(2, .int (v2 ||| ((1 : Int32) <<< ((m12 109 20) &&& 31)))), (0, jr G 109), (1, .int v1)]) d_M_writers_80 rfl (by decide) rfl ?_
            refine J.aload_n 1 d_M_writers_81 rfl rfl ?_
            refine J.nop (pc' := 82) rfl ?_
            obtain ⟨u13, m14, zm14, h⟩ := jbd_some h
            refine J.cVv Y_M_next (As := []) (rest := []) hG d_M_writers_82 mi_M_next mv_M_next lk_M_188 ⟨rfl, rfl, Nat.le_of_ble_eq_true rfl⟩ cq_109 cc_10 (c_M_next hG zm14) rfl (Nat.le_trans jcN (Nat.le_of_ble_eq_true rfl)) ?_
            refine J.goto 2 d_M_writers_85 rfl ?_
            exact J.sub (ls' := [(0, jr G 109), (1, .int v1), (2, .int (v2 ||| ((1 : Int32) <<< ((m12 109 20) &&& 31))))]) [1, 2, 0] rfl (ih (v2 ||| ((1 : Int32) <<< ((m12 109 20) &&& 31))) m14 _ h)
          · rw [if_neg c] at h
            exact J.sub (ls' := []) [] rfl (hk70  m12 _ h)
theorem c_M_writers {G : jG} (hG : jFul G) {v1 : Int32} {m : jMem} {r : (Int32 × jMem)} (h : f_M_writers v1 m = some r) : jCt G Y_M_writers [jr G 109, .int v1] m (jri r) := by
  refine jCt.ov (ls := [(0, jr G 109), (1, .int v1)]) mi_M_writers (jAvR (jAvI jAvN)) (Nat.le_of_ble_eq_true rfl) ?_ ⟨rfl, rfl⟩
  unfold f_M_writers at h
  refine J.iconst (v := (0 : Int32)) d_M_writers_0 ki_0 ?_
  refine J.istore_n (lv := [(2, .int (0 : Int32)), (0, jr G 109), (1, .int v1)]) d_M_writers_1 rfl (by decide) rfl ?_
  refine J.sub (ls' := [(0, jr G 109), (1, .int v1), (2, .int (0 : Int32))]) [1, 2, 0] rfl ?_
  refine jlp_M_writers_2 hG v1 _ _ ?_ ?_ _ (0 : Int32) m _ h
  · intro m15 r h
    refine J.iconst (v := (0 : Int32)) d_M_writers_70 ki_0 ?_
    cases h
    exact J.iret d_M_writers_71 rfl (vp_nar_int _) rfl
  · intro w17 m16 r h
    refine J.iload_n 0 d_M_writers_88 rfl rfl ?_
    cases h
    exact J.iret d_M_writers_89 rfl (vp_nar_int _) rfl

def f_M_bind (v0 : Int32) (m : jMem) : Option (Int32 × jMem) :=
  if v0 = (43 : Int32) then
    some ((5 : Int32), m)
  else
    if v0 = (45 : Int32) then
      some ((5 : Int32), m)
    else
      if v0 = (60 : Int32) then
        some ((4 : Int32), m)
      else
        if v0 = (61 : Int32) then
          some ((4 : Int32), m)
        else
          if v0 = (62 : Int32) then
            some ((4 : Int32), m)
          else
            if v0 = (256 : Int32) then
              some ((4 : Int32), m)
            else
              if v0 = (257 : Int32) then
                some ((4 : Int32), m)
              else
                if v0 = (258 : Int32) then
                  some ((4 : Int32), m)
                else
                  if v0 = (260 : Int32) then
                    some ((3 : Int32), m)
                  else
                    if v0 = (261 : Int32) then
                      some ((2 : Int32), m)
                    else
                      if v0 = (262 : Int32) then
                        some ((1 : Int32), m)
                      else
                        some ((0 : Int32), m)
theorem c_M_bind {G : jG} (hG : jFul G) {v0 : Int32} {m : jMem} {r : (Int32 × jMem)} (h : f_M_bind v0 m = some r) : jCt G Y_M_bind [.int v0] m (jri r) := by
  refine jCt.ov (ls := [(0, .int v0)]) mi_M_bind (jAvI jAvN) (Nat.le_of_ble_eq_true rfl) ?_ ⟨rfl, rfl⟩
  unfold f_M_bind at h
  refine J.iload_n 0 d_M_bind_0 rfl rfl ?_
  by_cases c43 : v0 = (43 : Int32)
  · rw [if_pos c43] at h
    refine J.lsw 108 d_M_bind_1 (by decide) (by rw [c43]) rfl ?_
    refine J.iconst (v := (5 : Int32)) d_M_bind_108 ki_5 ?_
    cases h
    exact J.iret d_M_bind_109 rfl (vp_nar_int _) rfl
  · rw [if_neg c43] at h
    by_cases c45 : v0 = (45 : Int32)
    · rw [if_pos c45] at h
      refine J.lsw 108 d_M_bind_1 (by decide) (by rw [c45]) rfl ?_
      refine J.iconst (v := (5 : Int32)) d_M_bind_108 ki_5 ?_
      cases h
      exact J.iret d_M_bind_109 rfl (vp_nar_int _) rfl
    · rw [if_neg c45] at h
      by_cases c60 : v0 = (60 : Int32)
      · rw [if_pos c60] at h
        refine J.lsw 106 d_M_bind_1 (by decide) (by rw [c60]) rfl ?_
        refine J.iconst (v := (4 : Int32)) d_M_bind_106 ki_4 ?_
        cases h
        exact J.iret d_M_bind_107 rfl (vp_nar_int _) rfl
      · rw [if_neg c60] at h
        by_cases c61 : v0 = (61 : Int32)
        · rw [if_pos c61] at h
          refine J.lsw 106 d_M_bind_1 (by decide) (by rw [c61]) rfl ?_
          refine J.iconst (v := (4 : Int32)) d_M_bind_106 ki_4 ?_
          cases h
          exact J.iret d_M_bind_107 rfl (vp_nar_int _) rfl
        · rw [if_neg c61] at h
          by_cases c62 : v0 = (62 : Int32)
          · rw [if_pos c62] at h
            refine J.lsw 106 d_M_bind_1 (by decide) (by rw [c62]) rfl ?_
            refine J.iconst (v := (4 : Int32)) d_M_bind_106 ki_4 ?_
            cases h
            exact J.iret d_M_bind_107 rfl (vp_nar_int _) rfl
          · rw [if_neg c62] at h
            by_cases c256 : v0 = (256 : Int32)
            · rw [if_pos c256] at h
              refine J.lsw 106 d_M_bind_1 (by decide) (by rw [c256]) rfl ?_
              refine J.iconst (v := (4 : Int32)) d_M_bind_106 ki_4 ?_
              cases h
              exact J.iret d_M_bind_107 rfl (vp_nar_int _) rfl
            · rw [if_neg c256] at h
              by_cases c257 : v0 = (257 : Int32)
              · rw [if_pos c257] at h
                refine J.lsw 106 d_M_bind_1 (by decide) (by rw [c257]) rfl ?_
                refine J.iconst (v := (4 : Int32)) d_M_bind_106 ki_4 ?_
                cases h
                exact J.iret d_M_bind_107 rfl (vp_nar_int _) rfl
              · rw [if_neg c257] at h
                by_cases c258 : v0 = (258 : Int32)
                · rw [if_pos c258] at h
                  refine J.lsw 106 d_M_bind_1 (by decide) (by rw [c258]) rfl ?_
                  refine J.iconst (v := (4 : Int32)) d_M_bind_106 ki_4 ?_
                  cases h
                  exact J.iret d_M_bind_107 rfl (vp_nar_int _) rfl
                · rw [if_neg c258] at h
                  by_cases c260 : v0 = (260 : Int32)
                  · rw [if_pos c260] at h
                    refine J.lsw 104 d_M_bind_1 (by decide) (by rw [c260]) rfl ?_
                    refine J.iconst (v := (3 : Int32)) d_M_bind_104 ki_3 ?_
                    cases h
                    exact J.iret d_M_bind_105 rfl (vp_nar_int _) rfl
                  · rw [if_neg c260] at h
                    by_cases c261 : v0 = (261 : Int32)
                    · rw [if_pos c261] at h
                      refine J.lsw 102 d_M_bind_1 (by decide) (by rw [c261]) rfl ?_
                      refine J.iconst (v := (2 : Int32)) d_M_bind_102 ki_2 ?_
                      cases h
                      exact J.iret d_M_bind_103 rfl (vp_nar_int _) rfl
                    · rw [if_neg c261] at h
                      by_cases c262 : v0 = (262 : Int32)
                      · rw [if_pos c262] at h
                        refine J.lsw 100 d_M_bind_1 (by decide) (by rw [c262]) rfl ?_
                        refine J.iconst (v := (1 : Int32)) d_M_bind_100 ki_1 ?_
                        cases h
                        exact J.iret d_M_bind_101 rfl (vp_nar_int _) rfl
                      · rw [if_neg c262] at h
                        refine J.lsw 110 d_M_bind_1 (by decide) (jlso [(43 : Int32), (45 : Int32), (60 : Int32), (61 : Int32), (62 : Int32), (256 : Int32), (257 : Int32), (258 : Int32), (260 : Int32), (261 : Int32), (262 : Int32)] (by decide) (by simp only [List.mem_cons, List.not_mem_nil, or_false, not_or]; exact ⟨c43, c45, c60, c61, c62, c256, c257, c258, c260, c261, c262⟩)) rfl ?_
                        refine J.iconst (v := (0 : Int32)) d_M_bind_110 ki_0 ?_
                        cases h
                        exact J.iret d_M_bind_111 rfl (vp_nar_int _) rfl

def f_M_between (m : jMem) : Option (Int32 × jMem) :=
  if (m 109 19) = 0 then
    if (m 109 20) = (9 : Int32) then
      some ((262 : Int32), m)
    else
      if (m 109 20) = (10 : Int32) then
        some ((261 : Int32), m)
      else
        some ((0 : Int32), m)
  else
    if (m 109 19) = (2 : Int32) then
      if (m 109 20) = (40 : Int32) then
        some ((0 : Int32), m)
      else
        if (m 109 20) = (41 : Int32) then
          some ((0 : Int32), m)
        else
          jbd (f_M_bind (m 109 20) m) fun x1 m2 =>
          if x1 ≤ 0 then
            some ((0 : Int32), m2)
          else
            some ((m2 109 20), m2)
    else
      some ((0 : Int32), m)
theorem c_M_between {G : jG} (hG : jFul G) {m : jMem} {r : (Int32 × jMem)} (h : f_M_between m = some r) : jCt G Y_M_between [jr G 109] m (jri r) := by
  refine jCt.ov (ls := [(0, jr G 109)]) mi_M_between (jAvR jAvN) (Nat.le_of_ble_eq_true rfl) ?_ ⟨rfl, rfl⟩
  unfold f_M_between at h
  refine J.aload_n 0 d_M_between_0 rfl rfl ?_
  refine J.getI hG d_M_between_1 fl_M_151 ck_109_19 ?_
  refine J.if_ne 39 d_M_between_4 rfl (fun c => ?_) (fun c => ?_)
  · rw [if_neg c] at h
    refine J.aload_n 0 d_M_between_39 rfl rfl ?_
    refine J.getI hG d_M_between_40 fl_M_151 ck_109_19 ?_
    refine J.iconst (v := (2 : Int32)) d_M_between_43 ki_2 ?_
    refine J.icmp_ne 82 d_M_between_44 rfl (fun c => ?_) (fun c => ?_)
    · rw [if_neg c] at h
      refine J.iconst (v := (0 : Int32)) d_M_between_82 ki_0 ?_
      cases h
      exact J.iret d_M_between_83 rfl (vp_nar_int _) rfl
    · rw [if_pos c] at h
      refine J.aload_n 0 d_M_between_47 rfl rfl ?_
      refine J.getI hG d_M_between_48 fl_M_161 ck_109_20 ?_
      refine J.bipush (v := (40 : Int32)) d_M_between_51 kb_40 ?_
      refine J.icmp_eq 82 d_M_between_53 rfl (fun c => ?_) (fun c => ?_)
      · rw [if_pos c] at h
        refine J.iconst (v := (0 : Int32)) d_M_between_82 ki_0 ?_
        cases h
        exact J.iret d_M_between_83 rfl (vp_nar_int _) rfl
      · rw [if_neg c] at h
        refine J.nop (pc' := 56) rfl ?_
        refine J.aload_n 0 d_M_between_56 rfl rfl ?_
        refine J.getI hG d_M_between_57 fl_M_161 ck_109_20 ?_
        refine J.bipush (v := (41 : Int32)) d_M_between_60 kb_41 ?_
        refine J.icmp_eq 82 d_M_between_62 rfl (fun c => ?_) (fun c => ?_)
        · rw [if_pos c] at h
          refine J.iconst (v := (0 : Int32)) d_M_between_82 ki_0 ?_
          cases h
          exact J.iret d_M_between_83 rfl (vp_nar_int _) rfl
        · rw [if_neg c] at h
          refine J.aload_n 0 d_M_between_65 rfl rfl ?_
          refine J.getI hG d_M_between_66 fl_M_161 ck_109_20 ?_
          obtain ⟨x1, m2, zm2, h⟩ := jbd_some h
          refine J.cSi Y_M_bind (As := [.int (m 109 20)]) (rest := []) d_M_between_69 mi_M_bind ms_M_bind lk_M_226 ⟨rfl, rfl, Nat.le_of_ble_eq_true rfl⟩ (c_M_bind hG zm2) rfl (Nat.le_trans jcN (Nat.le_of_ble_eq_true rfl)) ?_
          refine J.if_le 82 d_M_between_72 rfl (fun c => ?_) (fun c => ?_)
          · rw [if_pos c] at h
            refine J.iconst (v := (0 : Int32)) d_M_between_82 ki_0 ?_
            cases h
            exact J.iret d_M_between_83 rfl (vp_nar_int _) rfl
          · rw [if_neg c] at h
            refine J.nop (pc' := 75) rfl ?_
            refine J.aload_n 0 d_M_between_75 rfl rfl ?_
            refine J.getI hG d_M_between_76 fl_M_161 ck_109_20 ?_
            refine J.goto 83 d_M_between_79 rfl ?_
            cases h
            exact J.iret d_M_between_83 rfl (vp_nar_int _) rfl
  · rw [if_pos c] at h
    refine J.aload_n 0 d_M_between_7 rfl rfl ?_
    refine J.getI hG d_M_between_8 fl_M_161 ck_109_20 ?_
    refine J.bipush (v := (9 : Int32)) d_M_between_11 kb_9 ?_
    refine J.icmp_ne 22 d_M_between_13 rfl (fun c => ?_) (fun c => ?_)
    · rw [if_neg c] at h
      refine J.aload_n 0 d_M_between_22 rfl rfl ?_
      refine J.getI hG d_M_between_23 fl_M_161 ck_109_20 ?_
      refine J.bipush (v := (10 : Int32)) d_M_between_26 kb_10 ?_
      refine J.icmp_ne 37 d_M_between_28 rfl (fun c => ?_) (fun c => ?_)
      · rw [if_neg c] at h
        refine J.iconst (v := (0 : Int32)) d_M_between_37 ki_0 ?_
        cases h
        exact J.iret d_M_between_38 rfl (vp_nar_int _) rfl
      · rw [if_pos c] at h
        refine J.sipush (v := (261 : Int32)) d_M_between_31 ks_261 ?_
        refine J.goto 38 d_M_between_34 rfl ?_
        cases h
        exact J.iret d_M_between_38 rfl (vp_nar_int _) rfl
    · rw [if_pos c] at h
      refine J.sipush (v := (262 : Int32)) d_M_between_16 ks_262 ?_
      refine J.nop (pc' := 19) rfl ?_
      refine J.goto 38 d_M_between_19 rfl ?_
      cases h
      exact J.iret d_M_between_38 rfl (vp_nar_int _) rfl

def f_M_knot (m : jMem) : Option (Unit × jMem) :=
  if (m 109 7) = (64 : Int32) then
    jbd (f_M_wrong (2 : Int32) m) fun u2 m3 =>
    some ((), m3)
  else
    jpu m 109 7 ((m 109 7) + (1 : Int32)) fun m1 =>
    some ((), m1)
theorem c_M_knot {G : jG} (hG : jFul G) {m : jMem} {r : (Unit × jMem)} (h : f_M_knot m = some r) : jCt G Y_M_knot [jr G 109] m (jrv r) := by
  refine jCt.ov (ls := [(0, jr G 109)]) mi_M_knot (jAvR jAvN) (Nat.le_of_ble_eq_true rfl) ?_ ⟨rfl, rfl⟩
  unfold f_M_knot at h
  refine J.aload_n 0 d_M_knot_0 rfl rfl ?_
  refine J.getI hG d_M_knot_1 fl_M_220 ck_109_7 ?_
  refine J.bipush (v := (64 : Int32)) d_M_knot_4 kb_64 ?_
  refine J.icmp_ne 17 d_M_knot_6 rfl (fun c => ?_) (fun c => ?_)
  · rw [if_neg c] at h
    refine J.aload_n 0 d_M_knot_17 rfl rfl ?_
    refine J.dup d_M_knot_18 (jr_cat _ _) ?_
    refine J.getI hG d_M_knot_19 fl_M_220 ck_109_7 ?_
    refine J.iconst (v := (1 : Int32)) d_M_knot_22 ki_1 ?_
    refine J.iadd d_M_knot_23 ?_
    obtain ⟨m1, hm1, h⟩ := jpu_some h
    refine J.putI hG d_M_knot_24 fl_M_220 fp_10_7 ck_109_7 hm1 ?_
    cases h
    exact J.vret d_M_knot_27 rfl rfl
  · rw [if_pos c] at h
    refine J.aload_n 0 d_M_knot_9 rfl rfl ?_
    refine J.iconst (v := (2 : Int32)) d_M_knot_10 ki_2 ?_
    obtain ⟨u2, m3, zm3, h⟩ := jbd_some h
    refine J.cVv Y_M_wrong (As := [.int (2 : Int32)]) (rest := []) hG d_M_knot_11 mi_M_wrong mv_M_wrong lk_M_184 ⟨rfl, rfl, Nat.le_of_ble_eq_true rfl⟩ cq_109 cc_10 (c_M_wrong hG zm3) rfl (Nat.le_trans jcN (Nat.le_of_ble_eq_true rfl)) ?_
    refine J.goto 27 d_M_knot_14 rfl ?_
    cases h
    exact J.vret d_M_knot_27 rfl rfl

def f_M_out (v1 : Int32) (v2 : Int32) (m : jMem) : Option (Unit × jMem) :=
  jst 1 m 111 ((64 : Int32) + (m 109 5)) v1 fun m1 =>
  jst 1 m1 112 ((64 : Int32) + (m1 109 5)) v2 fun m2 =>
  jpu m2 109 5 ((m2 109 5) + (1 : Int32)) fun m3 =>
  some ((), m3)
theorem c_M_out {G : jG} (hG : jFul G) {v1 : Int32} {v2 : Int32} {m : jMem} {r : (Unit × jMem)} (h : f_M_out v1 v2 m = some r) : jCt G Y_M_out [jr G 109, .int v1, .int v2] m (jrv r) := by
  refine jCt.ov (ls := [(0, jr G 109), (1, .int v1), (2, .int v2)]) mi_M_out (jAvR (jAvI (jAvI jAvN))) (Nat.le_of_ble_eq_true rfl) ?_ ⟨rfl, rfl⟩
  unfold f_M_out at h
  refine J.aload_n 0 d_M_out_0 rfl rfl ?_
  refine J.getF (n := 111) hG d_M_out_1 fl_M_13 ck_109_3 rfl ?_
  refine J.bipush (v := (64 : Int32)) d_M_out_4 kb_64 ?_
  refine J.aload_n 0 d_M_out_6 rfl rfl ?_
  refine J.getI hG d_M_out_7 fl_M_214 ck_109_5 ?_
  refine J.iadd d_M_out_10 ?_
  refine J.iload_n 1 d_M_out_11 rfl rfl ?_
  obtain ⟨m1, hm1, g, h⟩ := jst_some h
  refine J.is hG d_M_out_12 g hm1 ?_
  refine J.nop (pc' := 13) rfl ?_
  refine J.aload_n 0 d_M_out_13 rfl rfl ?_
  refine J.getF (n := 112) hG d_M_out_14 fl_M_16 ck_109_4 rfl ?_
  refine J.bipush (v := (64 : Int32)) d_M_out_17 kb_64 ?_
  refine J.aload_n 0 d_M_out_19 rfl rfl ?_
  refine J.getI hG d_M_out_20 fl_M_214 ck_109_5 ?_
  refine J.iadd d_M_out_23 ?_
  refine J.iload_n 2 d_M_out_24 rfl rfl ?_
  obtain ⟨m2, hm2, g, h⟩ := jst_some h
  refine J.is hG d_M_out_25 g hm2 ?_
  refine J.nop (pc' := 26) rfl ?_
  refine J.aload_n 0 d_M_out_26 rfl rfl ?_
  refine J.dup d_M_out_27 (jr_cat _ _) ?_
  refine J.getI hG d_M_out_28 fl_M_214 ck_109_5 ?_
  refine J.iconst (v := (1 : Int32)) d_M_out_31 ki_1 ?_
  refine J.iadd d_M_out_32 ?_
  obtain ⟨m3, hm3, h⟩ := jpu_some h
  refine J.putI hG d_M_out_33 fl_M_214 fp_10_5 ck_109_5 hm3 ?_
  cases h
  exact J.vret d_M_out_36 rfl rfl

def f_M_awaits (v1 : Int32) (m : jMem) : Option (Unit × jMem) :=
  jst 1 m 117 (m 109 26) v1 fun m1 =>
  jpu m1 109 26 ((m1 109 26) + (1 : Int32)) fun m2 =>
  jbd (f_M_next m2) fun u3 m4 =>
  some ((), m4)
theorem c_M_awaits {G : jG} (hG : jFul G) {v1 : Int32} {m : jMem} {r : (Unit × jMem)} (h : f_M_awaits v1 m = some r) : jCt G Y_M_awaits [jr G 109, .int v1] m (jrv r) := by
  refine jCt.ov (ls := [(0, jr G 109), (1, .int v1)]) mi_M_awaits (jAvR (jAvI jAvN)) (Nat.le_of_ble_eq_true rfl) ?_ ⟨rfl, rfl⟩
  unfold f_M_awaits at h
  refine J.aload_n 0 d_M_awaits_0 rfl rfl ?_
  refine J.getF (n := 117) hG d_M_awaits_1 fl_M_36 ck_109_25 rfl ?_
  refine J.aload_n 0 d_M_awaits_4 rfl rfl ?_
  refine J.getI hG d_M_awaits_5 fl_M_223 ck_109_26 ?_
  refine J.iload_n 1 d_M_awaits_8 rfl rfl ?_
  obtain ⟨m1, hm1, g, h⟩ := jst_some h
  refine J.is hG d_M_awaits_9 g hm1 ?_
  refine J.aload_n 0 d_M_awaits_10 rfl rfl ?_
  refine J.dup d_M_awaits_11 (jr_cat _ _) ?_
  refine J.nop (pc' := 12) rfl ?_
  refine J.getI hG d_M_awaits_12 fl_M_223 ck_109_26 ?_
  refine J.iconst (v := (1 : Int32)) d_M_awaits_15 ki_1 ?_
  refine J.iadd d_M_awaits_16 ?_
  obtain ⟨m2, hm2, h⟩ := jpu_some h
  refine J.putI hG d_M_awaits_17 fl_M_223 fp_10_26 ck_109_26 hm2 ?_
  refine J.aload_n 0 d_M_awaits_20 rfl rfl ?_
  obtain ⟨u3, m4, zm4, h⟩ := jbd_some h
  refine J.cVv Y_M_next (As := []) (rest := []) hG d_M_awaits_21 mi_M_next mv_M_next lk_M_188 ⟨rfl, rfl, Nat.le_of_ble_eq_true rfl⟩ cq_109 cc_10 (c_M_next hG zm4) rfl (Nat.le_trans jcN (Nat.le_of_ble_eq_true rfl)) ?_
  cases h
  exact J.vret d_M_awaits_24 rfl rfl

def f_M_operand (m : jMem) : Option (Int32 × jMem) :=
  if (m 109 19) = (1 : Int32) then
    if (m 109 20) ≤ (999 : Int32) then
      if (m 109 21) = 0 then
        jbd (f_M_knot m) fun u97 m98 =>
        if (m98 109 21) = 0 then
          jbd (f_M_out (0 : Int32) (m98 109 20) m98) fun u99 m100 =>
          jbd (f_M_next m100) fun u101 m102 =>
          some ((1 : Int32), m102)
        else
          some ((0 : Int32), m98)
      else
        if (m 109 21) = 0 then
          jbd (f_M_out (0 : Int32) (m 109 20) m) fun u93 m94 =>
          jbd (f_M_next m94) fun u95 m96 =>
          some ((1 : Int32), m96)
        else
          some ((0 : Int32), m)
    else
      jbd (f_M_wrong (2 : Int32) m) fun u103 m104 =>
      if (m104 109 21) = 0 then
        jbd (f_M_knot m104) fun u109 m110 =>
        if (m110 109 21) = 0 then
          jbd (f_M_out (0 : Int32) (m110 109 20) m110) fun u111 m112 =>
          jbd (f_M_next m112) fun u113 m114 =>
          some ((1 : Int32), m114)
        else
          some ((0 : Int32), m110)
      else
        if (m104 109 21) = 0 then
          jbd (f_M_out (0 : Int32) (m104 109 20) m104) fun u105 m106 =>
          jbd (f_M_next m106) fun u107 m108 =>
          some ((1 : Int32), m108)
        else
          some ((0 : Int32), m104)
  else
    if (m 109 19) = 0 then
      if (m 109 20) < (12 : Int32) then
        jbd (f_M_isSign (40 : Int32) m) fun x44 m45 =>
        if x44 = 0 then
          if (m45 109 26) = 0 then
            if (m45 109 19) = 0 then
              if (m45 109 20) = (11 : Int32) then
                if (1 : Int32) = 0 then
                  jbd (f_M_wrong (1 : Int32) m45) fun u54 m55 =>
                  some ((0 : Int32), m55)
                else
                  jbd (f_M_knot m45) fun u50 m51 =>
                  if (m51 109 21) = 0 then
                    jbd (f_M_awaits (260 : Int32) m51) fun u52 m53 =>
                    some ((0 : Int32), m53)
                  else
                    some ((0 : Int32), m51)
              else
                jbd (f_M_wrong (1 : Int32) m45) fun u48 m49 =>
                some ((0 : Int32), m49)
            else
              jbd (f_M_wrong (1 : Int32) m45) fun u46 m47 =>
              some ((0 : Int32), m47)
          else
            jld 1 m45 117 ((m45 109 26) - (1 : Int32)) fun x56 =>
            jbd (f_M_bind x56 m45) fun x57 m58 =>
            if (4 : Int32) ≤ x57 then
              if (m58 109 19) = 0 then
                if (m58 109 20) = (11 : Int32) then
                  if (0 : Int32) = 0 then
                    jbd (f_M_wrong (1 : Int32) m58) fun u67 m68 =>
                    some ((0 : Int32), m68)
                  else
                    jbd (f_M_knot m58) fun u63 m64 =>
                    if (m64 109 21) = 0 then
                      jbd (f_M_awaits (260 : Int32) m64) fun u65 m66 =>
                      some ((0 : Int32), m66)
                    else
                      some ((0 : Int32), m64)
                else
                  jbd (f_M_wrong (1 : Int32) m58) fun u61 m62 =>
                  some ((0 : Int32), m62)
              else
                jbd (f_M_wrong (1 : Int32) m58) fun u59 m60 =>
                some ((0 : Int32), m60)
            else
              if (m58 109 19) = 0 then
                if (m58 109 20) = (11 : Int32) then
                  if (1 : Int32) = 0 then
                    jbd (f_M_wrong (1 : Int32) m58) fun u77 m78 =>
                    some ((0 : Int32), m78)
                  else
                    jbd (f_M_knot m58) fun u73 m74 =>
                    if (m74 109 21) = 0 then
                      jbd (f_M_awaits (260 : Int32) m74) fun u75 m76 =>
                      some ((0 : Int32), m76)
                    else
                      some ((0 : Int32), m74)
                else
                  jbd (f_M_wrong (1 : Int32) m58) fun u71 m72 =>
                  some ((0 : Int32), m72)
              else
                jbd (f_M_wrong (1 : Int32) m58) fun u69 m70 =>
                some ((0 : Int32), m70)
        else
          if (m45 109 27) = (8 : Int32) then
            jbd (f_M_wrong (2 : Int32) m45) fun u82 m83 =>
            if (m83 109 21) = 0 then
              jpu m83 109 27 ((m83 109 27) + (1 : Int32)) fun m84 =>
              jbd (f_M_awaits (40 : Int32) m84) fun u85 m86 =>
              some ((0 : Int32), m86)
            else
              some ((0 : Int32), m83)
          else
            if (m45 109 21) = 0 then
              jpu m45 109 27 ((m45 109 27) + (1 : Int32)) fun m79 =>
              jbd (f_M_awaits (40 : Int32) m79) fun u80 m81 =>
              some ((0 : Int32), m81)
            else
              some ((0 : Int32), m45)
      else
        jbd (f_M_knot m) fun u87 m88 =>
        if (m88 109 21) = 0 then
          jbd (f_M_out (1 : Int32) ((m88 109 20) - (12 : Int32)) m88) fun u89 m90 =>
          jbd (f_M_next m90) fun u91 m92 =>
          some ((1 : Int32), m92)
        else
          some ((0 : Int32), m88)
    else
      jbd (f_M_isSign (40 : Int32) m) fun x1 m2 =>
      if x1 = 0 then
        if (m2 109 26) = 0 then
          if (m2 109 19) = 0 then
            if (m2 109 20) = (11 : Int32) then
              if (1 : Int32) = 0 then
                jbd (f_M_wrong (1 : Int32) m2) fun u11 m12 =>
                some ((0 : Int32), m12)
              else
                jbd (f_M_knot m2) fun u7 m8 =>
                if (m8 109 21) = 0 then
                  jbd (f_M_awaits (260 : Int32) m8) fun u9 m10 =>
                  some ((0 : Int32), m10)
                else
                  some ((0 : Int32), m8)
            else
              jbd (f_M_wrong (1 : Int32) m2) fun u5 m6 =>
              some ((0 : Int32), m6)
          else
            jbd (f_M_wrong (1 : Int32) m2) fun u3 m4 =>
            some ((0 : Int32), m4)
        else
          jld 1 m2 117 ((m2 109 26) - (1 : Int32)) fun x13 =>
          jbd (f_M_bind x13 m2) fun x14 m15 =>
          if (4 : Int32) ≤ x14 then
            if (m15 109 19) = 0 then
              if (m15 109 20) = (11 : Int32) then
                if (0 : Int32) = 0 then
                  jbd (f_M_wrong (1 : Int32) m15) fun u24 m25 =>
                  some ((0 : Int32), m25)
                else
                  jbd (f_M_knot m15) fun u20 m21 =>
                  if (m21 109 21) = 0 then
                    jbd (f_M_awaits (260 : Int32) m21) fun u22 m23 =>
                    some ((0 : Int32), m23)
                  else
                    some ((0 : Int32), m21)
              else
                jbd (f_M_wrong (1 : Int32) m15) fun u18 m19 =>
                some ((0 : Int32), m19)
            else
              jbd (f_M_wrong (1 : Int32) m15) fun u16 m17 =>
              some ((0 : Int32), m17)
          else
            if (m15 109 19) = 0 then
              if (m15 109 20) = (11 : Int32) then
                if (1 : Int32) = 0 then
                  jbd (f_M_wrong (1 : Int32) m15) fun u34 m35 =>
                  some ((0 : Int32), m35)
                else
                  jbd (f_M_knot m15) fun u30 m31 =>
                  if (m31 109 21) = 0 then
                    jbd (f_M_awaits (260 : Int32) m31) fun u32 m33 =>
                    some ((0 : Int32), m33)
                  else
                    some ((0 : Int32), m31)
              else
                jbd (f_M_wrong (1 : Int32) m15) fun u28 m29 =>
                some ((0 : Int32), m29)
            else
              jbd (f_M_wrong (1 : Int32) m15) fun u26 m27 =>
              some ((0 : Int32), m27)
      else
        if (m2 109 27) = (8 : Int32) then
          jbd (f_M_wrong (2 : Int32) m2) fun u39 m40 =>
          if (m40 109 21) = 0 then
            jpu m40 109 27 ((m40 109 27) + (1 : Int32)) fun m41 =>
            jbd (f_M_awaits (40 : Int32) m41) fun u42 m43 =>
            some ((0 : Int32), m43)
          else
            some ((0 : Int32), m40)
        else
          if (m2 109 21) = 0 then
            jpu m2 109 27 ((m2 109 27) + (1 : Int32)) fun m36 =>
            jbd (f_M_awaits (40 : Int32) m36) fun u37 m38 =>
            some ((0 : Int32), m38)
          else
            some ((0 : Int32), m2)
theorem c_M_operand {G : jG} (hG : jFul G) {m : jMem} {r : (Int32 × jMem)} (h : f_M_operand m = some r) : jCt G Y_M_operand [jr G 109] m (jri r) := by
  refine jCt.ov (ls := [(0, jr G 109)]) mi_M_operand (jAvR jAvN) (Nat.le_of_ble_eq_true rfl) ?_ ⟨rfl, rfl⟩
  unfold f_M_operand at h
  refine J.aload_n 0 d_M_operand_0 rfl rfl ?_
  refine J.getI hG d_M_operand_1 fl_M_151 ck_109_19 ?_
  refine J.iconst (v := (1 : Int32)) d_M_operand_4 ki_1 ?_
  refine J.icmp_ne 58 d_M_operand_5 rfl (fun c => ?_) (fun c => ?_)
  · rw [if_neg c] at h
    refine J.aload_n 0 d_M_operand_58 rfl rfl ?_
    refine J.getI hG d_M_operand_59 fl_M_151 ck_109_19 ?_
    refine J.if_ne 105 d_M_operand_62 rfl (fun c => ?_) (fun c => ?_)
    · rw [if_neg c] at h
      refine J.aload_n 0 d_M_operand_105 rfl rfl ?_
      refine J.bipush (v := (40 : Int32)) d_M_operand_106 kb_40 ?_
      obtain ⟨x1, m2, zm2, h⟩ := jbd_some h
      refine J.cVi Y_M_isSign (As := [.int (40 : Int32)]) (rest := []) hG d_M_operand_108 mi_M_isSign mv_M_isSign lk_M_201 ⟨rfl, rfl, Nat.le_of_ble_eq_true rfl⟩ cq_109 cc_10 (c_M_isSign hG zm2) rfl (Nat.le_trans jcN (Nat.le_of_ble_eq_true rfl)) ?_
      refine J.if_eq 155 d_M_operand_111 rfl (fun c => ?_) (fun c => ?_)
      · rw [if_pos c] at h
        refine J.aload_n 0 d_M_operand_155 rfl rfl ?_
        refine J.getI hG d_M_operand_156 fl_M_223 ck_109_26 ?_
        refine J.if_eq 180 d_M_operand_159 rfl (fun c => ?_) (fun c => ?_)
        · rw [if_pos c] at h
          refine J.iconst (v := (1 : Int32)) d_M_operand_180 ki_1 ?_
          refine J.goto 185 d_M_operand_181 rfl ?_
          refine J.istore_n (lv := [(1, .int (1 : Int32)), (0, jr G 109)]) d_M_operand_185 rfl (by decide) rfl ?_
          refine J.aload_n 1 d_M_operand_186 rfl rfl ?_
          refine J.getI hG d_M_operand_187 fl_M_151 ck_109_19 ?_
          refine J.if_ne 206 d_M_operand_190 rfl (fun c => ?_) (fun c => ?_)
          · rw [if_neg c] at h
            refine J.aload_n 1 d_M_operand_206 rfl rfl ?_
            refine J.iconst (v := (1 : Int32)) d_M_operand_207 ki_1 ?_
            obtain ⟨u3, m4, zm4, h⟩ := jbd_some h
            refine J.cVv Y_M_wrong (As := [.int (1 : Int32)]) (rest := []) hG d_M_operand_208 mi_M_wrong mv_M_wrong lk_M_184 ⟨rfl, rfl, Nat.le_of_ble_eq_true rfl⟩ cq_109 cc_10 (c_M_wrong hG zm4) rfl (Nat.le_trans jcN (Nat.le_of_ble_eq_true rfl)) ?_
            refine J.iconst (v := (0 : Int32)) d_M_operand_211 ki_0 ?_
            cases h
            exact J.iret d_M_operand_212 rfl rfl rfl
          · rw [if_pos c] at h
            refine J.aload_n 1 d_M_operand_193 rfl rfl ?_
            refine J.getI hG d_M_operand_194 fl_M_161 ck_109_20 ?_
            refine J.bipush (v := (11 : Int32)) d_M_operand_197 kb_11 ?_
            refine J.icmp_ne 206 d_M_operand_199 rfl (fun c => ?_) (fun c => ?_)
            · rw [if_neg c] at h
              refine J.aload_n 1 d_M_operand_206 rfl rfl ?_
              refine J.iconst (v := (1 : Int32)) d_M_operand_207 ki_1 ?_
              obtain ⟨u5, m6, zm6, h⟩ := jbd_some h
              refine J.cVv Y_M_wrong (As := [.int (1 : Int32)]) (rest := []) hG d_M_operand_208 mi_M_wrong mv_M_wrong lk_M_184 ⟨rfl, rfl, Nat.le_of_ble_eq_true rfl⟩ cq_109 cc_10 (c_M_wrong hG zm6) rfl (Nat.le_trans jcN (Nat.le_of_ble_eq_true rfl)) ?_
              refine J.iconst (v := (0 : Int32)) d_M_operand_211 ki_0 ?_
              cases h
              exact J.iret d_M_operand_212 rfl rfl rfl
            · rw [if_pos c] at h
              refine J.nop (pc' := 202) rfl ?_
              refine J.iload_n 0 d_M_operand_202 rfl rfl ?_
              refine J.if_ne 213 d_M_operand_203 rfl (fun c => ?_) (fun c => ?_)
              · rw [if_neg c] at h
                refine J.aload_n 1 d_M_operand_213 rfl rfl ?_
                obtain ⟨u7, m8, zm8, h⟩ := jbd_some h
                refine J.cVv Y_M_knot (As := []) (rest := []) hG d_M_operand_214 mi_M_knot mv_M_knot lk_M_249 ⟨rfl, rfl, Nat.le_of_ble_eq_true rfl⟩ cq_109 cc_10 (c_M_knot hG zm8) rfl (Nat.le_trans jcN (Nat.le_of_ble_eq_true rfl)) ?_
                refine J.aload_n 1 d_M_operand_217 rfl rfl ?_
                refine J.getI hG d_M_operand_218 fl_M_178 ck_109_21 ?_
                refine J.if_ne 231 d_M_operand_221 rfl (fun c => ?_) (fun c => ?_)
                · rw [if_neg c] at h
                  refine J.iconst (v := (0 : Int32)) d_M_operand_231 ki_0 ?_
                  cases h
                  exact J.iret d_M_operand_232 rfl rfl rfl
                · rw [if_pos c] at h
                  refine J.aload_n 1 d_M_operand_224 rfl rfl ?_
                  refine J.sipush (v := (260 : Int32)) d_M_operand_225 ks_260 ?_
                  obtain ⟨u9, m10, zm10, h⟩ := jbd_some h
                  refine J.cVv Y_M_awaits (As := [.int (260 : Int32)]) (rest := []) hG d_M_operand_228 mi_M_awaits mv_M_awaits lk_M_252 ⟨rfl, rfl, Nat.le_of_ble_eq_true rfl⟩ cq_109 cc_10 (c_M_awaits hG zm10) rfl (Nat.le_trans jcN (Nat.le_of_ble_eq_true rfl)) ?_
                  refine J.nop (pc' := 231) rfl ?_
                  refine J.iconst (v := (0 : Int32)) d_M_operand_231 ki_0 ?_
                  cases h
                  exact J.iret d_M_operand_232 rfl rfl rfl
              · rw [if_pos c] at h
                refine J.aload_n 1 d_M_operand_206 rfl rfl ?_
                refine J.iconst (v := (1 : Int32)) d_M_operand_207 ki_1 ?_
                obtain ⟨u11, m12, zm12, h⟩ := jbd_some h
                refine J.cVv Y_M_wrong (As := [.int (1 : Int32)]) (rest := []) hG d_M_operand_208 mi_M_wrong mv_M_wrong lk_M_184 ⟨rfl, rfl, Nat.le_of_ble_eq_true rfl⟩ cq_109 cc_10 (c_M_wrong hG zm12) rfl (Nat.le_trans jcN (Nat.le_of_ble_eq_true rfl)) ?_
                refine J.iconst (v := (0 : Int32)) d_M_operand_211 ki_0 ?_
                cases h
                exact J.iret d_M_operand_212 rfl rfl rfl
        · rw [if_neg c] at h
          refine J.aload_n 0 d_M_operand_162 rfl rfl ?_
          refine J.getF (n := 117) hG d_M_operand_163 fl_M_36 ck_109_25 rfl ?_
          refine J.aload_n 0 d_M_operand_166 rfl rfl ?_
          refine J.getI hG d_M_operand_167 fl_M_223 ck_109_26 ?_
          refine J.iconst (v := (1 : Int32)) d_M_operand_170 ki_1 ?_
          refine J.nop (pc' := 171) rfl ?_
          refine J.isub d_M_operand_171 ?_
          obtain ⟨x13, ex13, g, h⟩ := jld_some h
          refine J.il hG d_M_operand_172 g ex13 ?_
          obtain ⟨x14, m15, zm15, h⟩ := jbd_some h
          refine J.cSi Y_M_bind (As := [.int x13]) (rest := []) d_M_operand_173 mi_M_bind ms_M_bind lk_M_226 ⟨rfl, rfl, Nat.le_of_ble_eq_true rfl⟩ (c_M_bind hG zm15) rfl (Nat.le_trans jcN (Nat.le_of_ble_eq_true rfl)) ?_
          refine J.iconst (v := (4 : Int32)) d_M_operand_176 ki_4 ?_
          refine J.icmp_ge 184 d_M_operand_177 rfl (fun c => ?_) (fun c => ?_)
          · rw [if_pos c] at h
            refine J.iconst (v := (0 : Int32)) d_M_operand_184 ki_0 ?_
            refine J.istore_n (lv := [(1, .int (0 : Int32)), (0, jr G 109)]) d_M_operand_185 rfl (by decide) rfl ?_
            refine J.aload_n 1 d_M_operand_186 rfl rfl ?_
            refine J.getI hG d_M_operand_187 fl_M_151 ck_109_19 ?_
            refine J.if_ne 206 d_M_operand_190 rfl (fun c => ?_) (fun c => ?_)
            · rw [if_neg c] at h
              refine J.aload_n 1 d_M_operand_206 rfl rfl ?_
              refine J.iconst (v := (1 : Int32)) d_M_operand_207 ki_1 ?_
              obtain ⟨u16, m17, zm17, h⟩ := jbd_some h
              refine J.cVv Y_M_wrong (As := [.int (1 : Int32)]) (rest := []) hG d_M_operand_208 mi_M_wrong mv_M_wrong lk_M_184 ⟨rfl, rfl, Nat.le_of_ble_eq_true rfl⟩ cq_109 cc_10 (c_M_wrong hG zm17) rfl (Nat.le_trans jcN (Nat.le_of_ble_eq_true rfl)) ?_
              refine J.iconst (v := (0 : Int32)) d_M_operand_211 ki_0 ?_
              cases h
              exact J.iret d_M_operand_212 rfl rfl rfl
            · rw [if_pos c] at h
              refine J.aload_n 1 d_M_operand_193 rfl rfl ?_
              refine J.getI hG d_M_operand_194 fl_M_161 ck_109_20 ?_
              refine J.bipush (v := (11 : Int32)) d_M_operand_197 kb_11 ?_
              refine J.nop (pc' := 199) rfl ?_
              refine J.icmp_ne 206 d_M_operand_199 rfl (fun c => ?_) (fun c => ?_)
              · rw [if_neg c] at h
                refine J.aload_n 1 d_M_operand_206 rfl rfl ?_
                refine J.iconst (v := (1 : Int32)) d_M_operand_207 ki_1 ?_
                obtain ⟨u18, m19, zm19, h⟩ := jbd_some h
                refine J.cVv Y_M_wrong (As := [.int (1 : Int32)]) (rest := []) hG d_M_operand_208 mi_M_wrong mv_M_wrong lk_M_184 ⟨rfl, rfl, Nat.le_of_ble_eq_true rfl⟩ cq_109 cc_10 (c_M_wrong hG zm19) rfl (Nat.le_trans jcN (Nat.le_of_ble_eq_true rfl)) ?_
                refine J.iconst (v := (0 : Int32)) d_M_operand_211 ki_0 ?_
                cases h
                exact J.iret d_M_operand_212 rfl rfl rfl
              · rw [if_pos c] at h
                refine J.iload_n 0 d_M_operand_202 rfl rfl ?_
                refine J.if_ne 213 d_M_operand_203 rfl (fun c => ?_) (fun c => ?_)
                · rw [if_neg c] at h
                  refine J.aload_n 1 d_M_operand_213 rfl rfl ?_
                  obtain ⟨u20, m21, zm21, h⟩ := jbd_some h
                  refine J.cVv Y_M_knot (As := []) (rest := []) hG d_M_operand_214 mi_M_knot mv_M_knot lk_M_249 ⟨rfl, rfl, Nat.le_of_ble_eq_true rfl⟩ cq_109 cc_10 (c_M_knot hG zm21) rfl (Nat.le_trans jcN (Nat.le_of_ble_eq_true rfl)) ?_
                  refine J.aload_n 1 d_M_operand_217 rfl rfl ?_
                  refine J.getI hG d_M_operand_218 fl_M_178 ck_109_21 ?_
                  refine J.if_ne 231 d_M_operand_221 rfl (fun c => ?_) (fun c => ?_)
                  · rw [if_neg c] at h
                    refine J.iconst (v := (0 : Int32)) d_M_operand_231 ki_0 ?_
                    cases h
                    exact J.iret d_M_operand_232 rfl rfl rfl
                  · rw [if_pos c] at h
                    refine J.aload_n 1 d_M_operand_224 rfl rfl ?_
                    refine J.sipush (v := (260 : Int32)) d_M_operand_225 ks_260 ?_
                    obtain ⟨u22, m23, zm23, h⟩ := jbd_some h
                    refine J.cVv Y_M_awaits (As := [.int (260 : Int32)]) (rest := []) hG d_M_operand_228 mi_M_awaits mv_M_awaits lk_M_252 ⟨rfl, rfl, Nat.le_of_ble_eq_true rfl⟩ cq_109 cc_10 (c_M_awaits hG zm23) rfl (Nat.le_trans jcN (Nat.le_of_ble_eq_true rfl)) ?_
                    refine J.nop (pc' := 231) rfl ?_
                    refine J.iconst (v := (0 : Int32)) d_M_operand_231 ki_0 ?_
                    cases h
                    exact J.iret d_M_operand_232 rfl rfl rfl
                · rw [if_pos c] at h
                  refine J.aload_n 1 d_M_operand_206 rfl rfl ?_
                  refine J.iconst (v := (1 : Int32)) d_M_operand_207 ki_1 ?_
                  obtain ⟨u24, m25, zm25, h⟩ := jbd_some h
                  refine J.cVv Y_M_wrong (As := [.int (1 : Int32)]) (rest := []) hG d_M_operand_208 mi_M_wrong mv_M_wrong lk_M_184 ⟨rfl, rfl, Nat.le_of_ble_eq_true rfl⟩ cq_109 cc_10 (c_M_wrong hG zm25) rfl (Nat.le_trans jcN (Nat.le_of_ble_eq_true rfl)) ?_
                  refine J.iconst (v := (0 : Int32)) d_M_operand_211 ki_0 ?_
                  cases h
                  exact J.iret d_M_operand_212 rfl rfl rfl
          · rw [if_neg c] at h
            refine J.iconst (v := (1 : Int32)) d_M_operand_180 ki_1 ?_
            refine J.goto 185 d_M_operand_181 rfl ?_
            refine J.istore_n (lv := [(1, .int (1 : Int32)), (0, jr G 109)]) d_M_operand_185 rfl (by decide) rfl ?_
            refine J.aload_n 1 d_M_operand_186 rfl rfl ?_
            refine J.getI hG d_M_operand_187 fl_M_151 ck_109_19 ?_
            refine J.if_ne 206 d_M_operand_190 rfl (fun c => ?_) (fun c => ?_)
            · rw [if_neg c] at h
              refine J.aload_n 1 d_M_operand_206 rfl rfl ?_
              refine J.iconst (v := (1 : Int32)) d_M_operand_207 ki_1 ?_
              obtain ⟨u26, m27, zm27, h⟩ := jbd_some h
              refine J.cVv Y_M_wrong (As := [.int (1 : Int32)]) (rest := []) hG d_M_operand_208 mi_M_wrong mv_M_wrong lk_M_184 ⟨rfl, rfl, Nat.le_of_ble_eq_true rfl⟩ cq_109 cc_10 (c_M_wrong hG zm27) rfl (Nat.le_trans jcN (Nat.le_of_ble_eq_true rfl)) ?_
              refine J.iconst (v := (0 : Int32)) d_M_operand_211 ki_0 ?_
              cases h
              exact J.iret d_M_operand_212 rfl rfl rfl
            · rw [if_pos c] at h
              refine J.aload_n 1 d_M_operand_193 rfl rfl ?_
              refine J.getI hG d_M_operand_194 fl_M_161 ck_109_20 ?_
              refine J.bipush (v := (11 : Int32)) d_M_operand_197 kb_11 ?_
              refine J.icmp_ne 206 d_M_operand_199 rfl (fun c => ?_) (fun c => ?_)
              · rw [if_neg c] at h
                refine J.aload_n 1 d_M_operand_206 rfl rfl ?_
                refine J.iconst (v := (1 : Int32)) d_M_operand_207 ki_1 ?_
                obtain ⟨u28, m29, zm29, h⟩ := jbd_some h
                refine J.cVv Y_M_wrong (As := [.int (1 : Int32)]) (rest := []) hG d_M_operand_208 mi_M_wrong mv_M_wrong lk_M_184 ⟨rfl, rfl, Nat.le_of_ble_eq_true rfl⟩ cq_109 cc_10 (c_M_wrong hG zm29) rfl (Nat.le_trans jcN (Nat.le_of_ble_eq_true rfl)) ?_
                refine J.iconst (v := (0 : Int32)) d_M_operand_211 ki_0 ?_
                cases h
                exact J.iret d_M_operand_212 rfl rfl rfl
              · rw [if_pos c] at h
                refine J.nop (pc' := 202) rfl ?_
                refine J.iload_n 0 d_M_operand_202 rfl rfl ?_
                refine J.if_ne 213 d_M_operand_203 rfl (fun c => ?_) (fun c => ?_)
                · rw [if_neg c] at h
                  refine J.aload_n 1 d_M_operand_213 rfl rfl ?_
                  obtain ⟨u30, m31, zm31, h⟩ := jbd_some h
                  refine J.cVv Y_M_knot (As := []) (rest := []) hG d_M_operand_214 mi_M_knot mv_M_knot lk_M_249 ⟨rfl, rfl, Nat.le_of_ble_eq_true rfl⟩ cq_109 cc_10 (c_M_knot hG zm31) rfl (Nat.le_trans jcN (Nat.le_of_ble_eq_true rfl)) ?_
                  refine J.aload_n 1 d_M_operand_217 rfl rfl ?_
                  refine J.getI hG d_M_operand_218 fl_M_178 ck_109_21 ?_
                  refine J.if_ne 231 d_M_operand_221 rfl (fun c => ?_) (fun c => ?_)
                  · rw [if_neg c] at h
                    refine J.iconst (v := (0 : Int32)) d_M_operand_231 ki_0 ?_
                    cases h
                    exact J.iret d_M_operand_232 rfl rfl rfl
                  · rw [if_pos c] at h
                    refine J.aload_n 1 d_M_operand_224 rfl rfl ?_
                    refine J.sipush (v := (260 : Int32)) d_M_operand_225 ks_260 ?_
                    obtain ⟨u32, m33, zm33, h⟩ := jbd_some h
                    refine J.cVv Y_M_awaits (As := [.int (260 : Int32)]) (rest := []) hG d_M_operand_228 mi_M_awaits mv_M_awaits lk_M_252 ⟨rfl, rfl, Nat.le_of_ble_eq_true rfl⟩ cq_109 cc_10 (c_M_awaits hG zm33) rfl (Nat.le_trans jcN (Nat.le_of_ble_eq_true rfl)) ?_
                    refine J.nop (pc' := 231) rfl ?_
                    refine J.iconst (v := (0 : Int32)) d_M_operand_231 ki_0 ?_
                    cases h
                    exact J.iret d_M_operand_232 rfl rfl rfl
                · rw [if_pos c] at h
                  refine J.aload_n 1 d_M_operand_206 rfl rfl ?_
                  refine J.iconst (v := (1 : Int32)) d_M_operand_207 ki_1 ?_
                  obtain ⟨u34, m35, zm35, h⟩ := jbd_some h
                  refine J.cVv Y_M_wrong (As := [.int (1 : Int32)]) (rest := []) hG d_M_operand_208 mi_M_wrong mv_M_wrong lk_M_184 ⟨rfl, rfl, Nat.le_of_ble_eq_true rfl⟩ cq_109 cc_10 (c_M_wrong hG zm35) rfl (Nat.le_trans jcN (Nat.le_of_ble_eq_true rfl)) ?_
                  refine J.iconst (v := (0 : Int32)) d_M_operand_211 ki_0 ?_
                  cases h
                  exact J.iret d_M_operand_212 rfl rfl rfl
      · rw [if_neg c] at h
        refine J.aload_n 0 d_M_operand_114 rfl rfl ?_
        refine J.getI hG d_M_operand_115 fl_M_233 ck_109_27 ?_
        refine J.bipush (v := (8 : Int32)) d_M_operand_118 kb_8 ?_
        refine J.icmp_ne 128 d_M_operand_120 rfl (fun c => ?_) (fun c => ?_)
        · rw [if_neg c] at h
          refine J.aload_n 0 d_M_operand_128 rfl rfl ?_
          refine J.getI hG d_M_operand_129 fl_M_178 ck_109_21 ?_
          refine J.if_eq 137 d_M_operand_132 rfl (fun c => ?_) (fun c => ?_)
          · rw [if_pos c] at h
            refine J.aload_n 0 d_M_operand_137 rfl rfl ?_
            refine J.dup d_M_operand_138 (jr_cat _ _) ?_
            refine J.getI hG d_M_operand_139 fl_M_233 ck_109_27 ?_
            refine J.iconst (v := (1 : Int32)) d_M_operand_142 ki_1 ?_
            refine J.iadd d_M_operand_143 ?_
            obtain ⟨m36, hm36, h⟩ := jpu_some h
            refine J.putI hG d_M_operand_144 fl_M_233 fp_10_27 ck_109_27 hm36 ?_
            refine J.aload_n 0 d_M_operand_147 rfl rfl ?_
            refine J.bipush (v := (40 : Int32)) d_M_operand_148 kb_40 ?_
            refine J.nop (pc' := 150) rfl ?_
            obtain ⟨u37, m38, zm38, h⟩ := jbd_some h
            refine J.cVv Y_M_awaits (As := [.int (40 : Int32)]) (rest := []) hG d_M_operand_150 mi_M_awaits mv_M_awaits lk_M_252 ⟨rfl, rfl, Nat.le_of_ble_eq_true rfl⟩ cq_109 cc_10 (c_M_awaits hG zm38) rfl (Nat.le_trans jcN (Nat.le_of_ble_eq_true rfl)) ?_
            refine J.iconst (v := (0 : Int32)) d_M_operand_153 ki_0 ?_
            cases h
            exact J.iret d_M_operand_154 rfl rfl rfl
          · rw [if_neg c] at h
            refine J.iconst (v := (0 : Int32)) d_M_operand_135 ki_0 ?_
            cases h
            exact J.iret d_M_operand_136 rfl rfl rfl
        · rw [if_pos c] at h
          refine J.nop (pc' := 123) rfl ?_
          refine J.aload_n 0 d_M_operand_123 rfl rfl ?_
          refine J.iconst (v := (2 : Int32)) d_M_operand_124 ki_2 ?_
          obtain ⟨u39, m40, zm40, h⟩ := jbd_some h
          refine J.cVv Y_M_wrong (As := [.int (2 : Int32)]) (rest := []) hG d_M_operand_125 mi_M_wrong mv_M_wrong lk_M_184 ⟨rfl, rfl, Nat.le_of_ble_eq_true rfl⟩ cq_109 cc_10 (c_M_wrong hG zm40) rfl (Nat.le_trans jcN (Nat.le_of_ble_eq_true rfl)) ?_
          refine J.aload_n 0 d_M_operand_128 rfl rfl ?_
          refine J.getI hG d_M_operand_129 fl_M_178 ck_109_21 ?_
          refine J.if_eq 137 d_M_operand_132 rfl (fun c => ?_) (fun c => ?_)
          · rw [if_pos c] at h
            refine J.aload_n 0 d_M_operand_137 rfl rfl ?_
            refine J.dup d_M_operand_138 (jr_cat _ _) ?_
            refine J.getI hG d_M_operand_139 fl_M_233 ck_109_27 ?_
            refine J.iconst (v := (1 : Int32)) d_M_operand_142 ki_1 ?_
            refine J.iadd d_M_operand_143 ?_
            obtain ⟨m41, hm41, h⟩ := jpu_some h
            refine J.putI hG d_M_operand_144 fl_M_233 fp_10_27 ck_109_27 hm41 ?_
            refine J.aload_n 0 d_M_operand_147 rfl rfl ?_
            refine J.bipush (v := (40 : Int32)) d_M_operand_148 kb_40 ?_
            refine J.nop (pc' := 150) rfl ?_
            obtain ⟨u42, m43, zm43, h⟩ := jbd_some h
            refine J.cVv Y_M_awaits (As := [.int (40 : Int32)]) (rest := []) hG d_M_operand_150 mi_M_awaits mv_M_awaits lk_M_252 ⟨rfl, rfl, Nat.le_of_ble_eq_true rfl⟩ cq_109 cc_10 (c_M_awaits hG zm43) rfl (Nat.le_trans jcN (Nat.le_of_ble_eq_true rfl)) ?_
            refine J.iconst (v := (0 : Int32)) d_M_operand_153 ki_0 ?_
            cases h
            exact J.iret d_M_operand_154 rfl rfl rfl
          · rw [if_neg c] at h
            refine J.iconst (v := (0 : Int32)) d_M_operand_135 ki_0 ?_
            cases h
            exact J.iret d_M_operand_136 rfl rfl rfl
    · rw [if_pos c] at h
      refine J.aload_n 0 d_M_operand_65 rfl rfl ?_
      refine J.getI hG d_M_operand_66 fl_M_161 ck_109_20 ?_
      refine J.bipush (v := (12 : Int32)) d_M_operand_69 kb_12 ?_
      refine J.icmp_lt 105 d_M_operand_71 rfl (fun c => ?_) (fun c => ?_)
      · rw [if_pos c] at h
        refine J.aload_n 0 d_M_operand_105 rfl rfl ?_
        refine J.bipush (v := (40 : Int32)) d_M_operand_106 kb_40 ?_
        obtain ⟨x44, m45, zm45, h⟩ := jbd_some h
        refine J.cVi Y_M_isSign (As := [.int (40 : Int32)]) (rest := []) hG d_M_operand_108 mi_M_isSign mv_M_isSign lk_M_201 ⟨rfl, rfl, Nat.le_of_ble_eq_true rfl⟩ cq_109 cc_10 (c_M_isSign hG zm45) rfl (Nat.le_trans jcN (Nat.le_of_ble_eq_true rfl)) ?_
        refine J.if_eq 155 d_M_operand_111 rfl (fun c => ?_) (fun c => ?_)
        · rw [if_pos c] at h
          refine J.aload_n 0 d_M_operand_155 rfl rfl ?_
          refine J.getI hG d_M_operand_156 fl_M_223 ck_109_26 ?_
          refine J.if_eq 180 d_M_operand_159 rfl (fun c => ?_) (fun c => ?_)
          · rw [if_pos c] at h
            refine J.iconst (v := (1 : Int32)) d_M_operand_180 ki_1 ?_
            refine J.goto 185 d_M_operand_181 rfl ?_
            refine J.istore_n (lv := [(1, .int (1 : Int32)), (0, jr G 109)]) d_M_operand_185 rfl (by decide) rfl ?_
            refine J.aload_n 1 d_M_operand_186 rfl rfl ?_
            refine J.getI hG d_M_operand_187 fl_M_151 ck_109_19 ?_
            refine J.if_ne 206 d_M_operand_190 rfl (fun c => ?_) (fun c => ?_)
            · rw [if_neg c] at h
              refine J.aload_n 1 d_M_operand_206 rfl rfl ?_
              refine J.iconst (v := (1 : Int32)) d_M_operand_207 ki_1 ?_
              obtain ⟨u46, m47, zm47, h⟩ := jbd_some h
              refine J.cVv Y_M_wrong (As := [.int (1 : Int32)]) (rest := []) hG d_M_operand_208 mi_M_wrong mv_M_wrong lk_M_184 ⟨rfl, rfl, Nat.le_of_ble_eq_true rfl⟩ cq_109 cc_10 (c_M_wrong hG zm47) rfl (Nat.le_trans jcN (Nat.le_of_ble_eq_true rfl)) ?_
              refine J.iconst (v := (0 : Int32)) d_M_operand_211 ki_0 ?_
              cases h
              exact J.iret d_M_operand_212 rfl rfl rfl
            · rw [if_pos c] at h
              refine J.aload_n 1 d_M_operand_193 rfl rfl ?_
              refine J.getI hG d_M_operand_194 fl_M_161 ck_109_20 ?_
              refine J.bipush (v := (11 : Int32)) d_M_operand_197 kb_11 ?_
              refine J.icmp_ne 206 d_M_operand_199 rfl (fun c => ?_) (fun c => ?_)
              · rw [if_neg c] at h
                refine J.aload_n 1 d_M_operand_206 rfl rfl ?_
                refine J.iconst (v := (1 : Int32)) d_M_operand_207 ki_1 ?_
                obtain ⟨u48, m49, zm49, h⟩ := jbd_some h
                refine J.cVv Y_M_wrong (As := [.int (1 : Int32)]) (rest := []) hG d_M_operand_208 mi_M_wrong mv_M_wrong lk_M_184 ⟨rfl, rfl, Nat.le_of_ble_eq_true rfl⟩ cq_109 cc_10 (c_M_wrong hG zm49) rfl (Nat.le_trans jcN (Nat.le_of_ble_eq_true rfl)) ?_
                refine J.iconst (v := (0 : Int32)) d_M_operand_211 ki_0 ?_
                cases h
                exact J.iret d_M_operand_212 rfl rfl rfl
              · rw [if_pos c] at h
                refine J.nop (pc' := 202) rfl ?_
                refine J.iload_n 0 d_M_operand_202 rfl rfl ?_
                refine J.if_ne 213 d_M_operand_203 rfl (fun c => ?_) (fun c => ?_)
                · rw [if_neg c] at h
                  refine J.aload_n 1 d_M_operand_213 rfl rfl ?_
                  obtain ⟨u50, m51, zm51, h⟩ := jbd_some h
                  refine J.cVv Y_M_knot (As := []) (rest := []) hG d_M_operand_214 mi_M_knot mv_M_knot lk_M_249 ⟨rfl, rfl, Nat.le_of_ble_eq_true rfl⟩ cq_109 cc_10 (c_M_knot hG zm51) rfl (Nat.le_trans jcN (Nat.le_of_ble_eq_true rfl)) ?_
                  refine J.aload_n 1 d_M_operand_217 rfl rfl ?_
                  refine J.getI hG d_M_operand_218 fl_M_178 ck_109_21 ?_
                  refine J.if_ne 231 d_M_operand_221 rfl (fun c => ?_) (fun c => ?_)
                  · rw [if_neg c] at h
                    refine J.iconst (v := (0 : Int32)) d_M_operand_231 ki_0 ?_
                    cases h
                    exact J.iret d_M_operand_232 rfl rfl rfl
                  · rw [if_pos c] at h
                    refine J.aload_n 1 d_M_operand_224 rfl rfl ?_
                    refine J.sipush (v := (260 : Int32)) d_M_operand_225 ks_260 ?_
                    obtain ⟨u52, m53, zm53, h⟩ := jbd_some h
                    refine J.cVv Y_M_awaits (As := [.int (260 : Int32)]) (rest := []) hG d_M_operand_228 mi_M_awaits mv_M_awaits lk_M_252 ⟨rfl, rfl, Nat.le_of_ble_eq_true rfl⟩ cq_109 cc_10 (c_M_awaits hG zm53) rfl (Nat.le_trans jcN (Nat.le_of_ble_eq_true rfl)) ?_
                    refine J.nop (pc' := 231) rfl ?_
                    refine J.iconst (v := (0 : Int32)) d_M_operand_231 ki_0 ?_
                    cases h
                    exact J.iret d_M_operand_232 rfl rfl rfl
                · rw [if_pos c] at h
                  refine J.aload_n 1 d_M_operand_206 rfl rfl ?_
                  refine J.iconst (v := (1 : Int32)) d_M_operand_207 ki_1 ?_
                  obtain ⟨u54, m55, zm55, h⟩ := jbd_some h
                  refine J.cVv Y_M_wrong (As := [.int (1 : Int32)]) (rest := []) hG d_M_operand_208 mi_M_wrong mv_M_wrong lk_M_184 ⟨rfl, rfl, Nat.le_of_ble_eq_true rfl⟩ cq_109 cc_10 (c_M_wrong hG zm55) rfl (Nat.le_trans jcN (Nat.le_of_ble_eq_true rfl)) ?_
                  refine J.iconst (v := (0 : Int32)) d_M_operand_211 ki_0 ?_
                  cases h
                  exact J.iret d_M_operand_212 rfl rfl rfl
          · rw [if_neg c] at h
            refine J.aload_n 0 d_M_operand_162 rfl rfl ?_
            refine J.getF (n := 117) hG d_M_operand_163 fl_M_36 ck_109_25 rfl ?_
            refine J.aload_n 0 d_M_operand_166 rfl rfl ?_
            refine J.getI hG d_M_operand_167 fl_M_223 ck_109_26 ?_
            refine J.iconst (v := (1 : Int32)) d_M_operand_170 ki_1 ?_
            refine J.nop (pc' := 171) rfl ?_
            refine J.isub d_M_operand_171 ?_
            obtain ⟨x56, ex56, g, h⟩ := jld_some h
            refine J.il hG d_M_operand_172 g ex56 ?_
            obtain ⟨x57, m58, zm58, h⟩ := jbd_some h
            refine J.cSi Y_M_bind (As := [.int x56]) (rest := []) d_M_operand_173 mi_M_bind ms_M_bind lk_M_226 ⟨rfl, rfl, Nat.le_of_ble_eq_true rfl⟩ (c_M_bind hG zm58) rfl (Nat.le_trans jcN (Nat.le_of_ble_eq_true rfl)) ?_
            refine J.iconst (v := (4 : Int32)) d_M_operand_176 ki_4 ?_
            refine J.icmp_ge 184 d_M_operand_177 rfl (fun c => ?_) (fun c => ?_)
            · rw [if_pos c] at h
              refine J.iconst (v := (0 : Int32)) d_M_operand_184 ki_0 ?_
              refine J.istore_n (lv := [(1, .int (0 : Int32)), (0, jr G 109)]) d_M_operand_185 rfl (by decide) rfl ?_
              refine J.aload_n 1 d_M_operand_186 rfl rfl ?_
              refine J.getI hG d_M_operand_187 fl_M_151 ck_109_19 ?_
              refine J.if_ne 206 d_M_operand_190 rfl (fun c => ?_) (fun c => ?_)
              · rw [if_neg c] at h
                refine J.aload_n 1 d_M_operand_206 rfl rfl ?_
                refine J.iconst (v := (1 : Int32)) d_M_operand_207 ki_1 ?_
                obtain ⟨u59, m60, zm60, h⟩ := jbd_some h
                refine J.cVv Y_M_wrong (As := [.int (1 : Int32)]) (rest := []) hG d_M_operand_208 mi_M_wrong mv_M_wrong lk_M_184 ⟨rfl, rfl, Nat.le_of_ble_eq_true rfl⟩ cq_109 cc_10 (c_M_wrong hG zm60) rfl (Nat.le_trans jcN (Nat.le_of_ble_eq_true rfl)) ?_
                refine J.iconst (v := (0 : Int32)) d_M_operand_211 ki_0 ?_
                cases h
                exact J.iret d_M_operand_212 rfl rfl rfl
              · rw [if_pos c] at h
                refine J.aload_n 1 d_M_operand_193 rfl rfl ?_
                refine J.getI hG d_M_operand_194 fl_M_161 ck_109_20 ?_
                refine J.bipush (v := (11 : Int32)) d_M_operand_197 kb_11 ?_
                refine J.nop (pc' := 199) rfl ?_
                refine J.icmp_ne 206 d_M_operand_199 rfl (fun c => ?_) (fun c => ?_)
                · rw [if_neg c] at h
                  refine J.aload_n 1 d_M_operand_206 rfl rfl ?_
                  refine J.iconst (v := (1 : Int32)) d_M_operand_207 ki_1 ?_
                  obtain ⟨u61, m62, zm62, h⟩ := jbd_some h
                  refine J.cVv Y_M_wrong (As := [.int (1 : Int32)]) (rest := []) hG d_M_operand_208 mi_M_wrong mv_M_wrong lk_M_184 ⟨rfl, rfl, Nat.le_of_ble_eq_true rfl⟩ cq_109 cc_10 (c_M_wrong hG zm62) rfl (Nat.le_trans jcN (Nat.le_of_ble_eq_true rfl)) ?_
                  refine J.iconst (v := (0 : Int32)) d_M_operand_211 ki_0 ?_
                  cases h
                  exact J.iret d_M_operand_212 rfl rfl rfl
                · rw [if_pos c] at h
                  refine J.iload_n 0 d_M_operand_202 rfl rfl ?_
                  refine J.if_ne 213 d_M_operand_203 rfl (fun c => ?_) (fun c => ?_)
                  · rw [if_neg c] at h
                    refine J.aload_n 1 d_M_operand_213 rfl rfl ?_
                    obtain ⟨u63, m64, zm64, h⟩ := jbd_some h
                    refine J.cVv Y_M_knot (As := []) (rest := []) hG d_M_operand_214 mi_M_knot mv_M_knot lk_M_249 ⟨rfl, rfl, Nat.le_of_ble_eq_true rfl⟩ cq_109 cc_10 (c_M_knot hG zm64) rfl (Nat.le_trans jcN (Nat.le_of_ble_eq_true rfl)) ?_
                    refine J.aload_n 1 d_M_operand_217 rfl rfl ?_
                    refine J.getI hG d_M_operand_218 fl_M_178 ck_109_21 ?_
                    refine J.if_ne 231 d_M_operand_221 rfl (fun c => ?_) (fun c => ?_)
                    · rw [if_neg c] at h
                      refine J.iconst (v := (0 : Int32)) d_M_operand_231 ki_0 ?_
                      cases h
                      exact J.iret d_M_operand_232 rfl rfl rfl
                    · rw [if_pos c] at h
                      refine J.aload_n 1 d_M_operand_224 rfl rfl ?_
                      refine J.sipush (v := (260 : Int32)) d_M_operand_225 ks_260 ?_
                      obtain ⟨u65, m66, zm66, h⟩ := jbd_some h
                      refine J.cVv Y_M_awaits (As := [.int (260 : Int32)]) (rest := []) hG d_M_operand_228 mi_M_awaits mv_M_awaits lk_M_252 ⟨rfl, rfl, Nat.le_of_ble_eq_true rfl⟩ cq_109 cc_10 (c_M_awaits hG zm66) rfl (Nat.le_trans jcN (Nat.le_of_ble_eq_true rfl)) ?_
                      refine J.nop (pc' := 231) rfl ?_
                      refine J.iconst (v := (0 : Int32)) d_M_operand_231 ki_0 ?_
                      cases h
                      exact J.iret d_M_operand_232 rfl rfl rfl
                  · rw [if_pos c] at h
                    refine J.aload_n 1 d_M_operand_206 rfl rfl ?_
                    refine J.iconst (v := (1 : Int32)) d_M_operand_207 ki_1 ?_
                    obtain ⟨u67, m68, zm68, h⟩ := jbd_some h
                    refine J.cVv Y_M_wrong (As := [.int (1 : Int32)]) (rest := []) hG d_M_operand_208 mi_M_wrong mv_M_wrong lk_M_184 ⟨rfl, rfl, Nat.le_of_ble_eq_true rfl⟩ cq_109 cc_10 (c_M_wrong hG zm68) rfl (Nat.le_trans jcN (Nat.le_of_ble_eq_true rfl)) ?_
                    refine J.iconst (v := (0 : Int32)) d_M_operand_211 ki_0 ?_
                    cases h
                    exact J.iret d_M_operand_212 rfl rfl rfl
            · rw [if_neg c] at h
              refine J.iconst (v := (1 : Int32)) d_M_operand_180 ki_1 ?_
              refine J.goto 185 d_M_operand_181 rfl ?_
              refine J.istore_n (lv := [(1, .int (1 : Int32)), (0, jr G 109)]) d_M_operand_185 rfl (by decide) rfl ?_
              refine J.aload_n 1 d_M_operand_186 rfl rfl ?_
              refine J.getI hG d_M_operand_187 fl_M_151 ck_109_19 ?_
              refine J.if_ne 206 d_M_operand_190 rfl (fun c => ?_) (fun c => ?_)
              · rw [if_neg c] at h
                refine J.aload_n 1 d_M_operand_206 rfl rfl ?_
                refine J.iconst (v := (1 : Int32)) d_M_operand_207 ki_1 ?_
                obtain ⟨u69, m70, zm70, h⟩ := jbd_some h
                refine J.cVv Y_M_wrong (As := [.int (1 : Int32)]) (rest := []) hG d_M_operand_208 mi_M_wrong mv_M_wrong lk_M_184 ⟨rfl, rfl, Nat.le_of_ble_eq_true rfl⟩ cq_109 cc_10 (c_M_wrong hG zm70) rfl (Nat.le_trans jcN (Nat.le_of_ble_eq_true rfl)) ?_
                refine J.iconst (v := (0 : Int32)) d_M_operand_211 ki_0 ?_
                cases h
                exact J.iret d_M_operand_212 rfl rfl rfl
              · rw [if_pos c] at h
                refine J.aload_n 1 d_M_operand_193 rfl rfl ?_
                refine J.getI hG d_M_operand_194 fl_M_161 ck_109_20 ?_
                refine J.bipush (v := (11 : Int32)) d_M_operand_197 kb_11 ?_
                refine J.icmp_ne 206 d_M_operand_199 rfl (fun c => ?_) (fun c => ?_)
                · rw [if_neg c] at h
                  refine J.aload_n 1 d_M_operand_206 rfl rfl ?_
                  refine J.iconst (v := (1 : Int32)) d_M_operand_207 ki_1 ?_
                  obtain ⟨u71, m72, zm72, h⟩ := jbd_some h
                  refine J.cVv Y_M_wrong (As := [.int (1 : Int32)]) (rest := []) hG d_M_operand_208 mi_M_wrong mv_M_wrong lk_M_184 ⟨rfl, rfl, Nat.le_of_ble_eq_true rfl⟩ cq_109 cc_10 (c_M_wrong hG zm72) rfl (Nat.le_trans jcN (Nat.le_of_ble_eq_true rfl)) ?_
                  refine J.iconst (v := (0 : Int32)) d_M_operand_211 ki_0 ?_
                  cases h
                  exact J.iret d_M_operand_212 rfl rfl rfl
                · rw [if_pos c] at h
                  refine J.nop (pc' := 202) rfl ?_
                  refine J.iload_n 0 d_M_operand_202 rfl rfl ?_
                  refine J.if_ne 213 d_M_operand_203 rfl (fun c => ?_) (fun c => ?_)
                  · rw [if_neg c] at h
                    refine J.aload_n 1 d_M_operand_213 rfl rfl ?_
                    obtain ⟨u73, m74, zm74, h⟩ := jbd_some h
                    refine J.cVv Y_M_knot (As := []) (rest := []) hG d_M_operand_214 mi_M_knot mv_M_knot lk_M_249 ⟨rfl, rfl, Nat.le_of_ble_eq_true rfl⟩ cq_109 cc_10 (c_M_knot hG zm74) rfl (Nat.le_trans jcN (Nat.le_of_ble_eq_true rfl)) ?_
                    refine J.aload_n 1 d_M_operand_217 rfl rfl ?_
                    refine J.getI hG d_M_operand_218 fl_M_178 ck_109_21 ?_
                    refine J.if_ne 231 d_M_operand_221 rfl (fun c => ?_) (fun c => ?_)
                    · rw [if_neg c] at h
                      refine J.iconst (v := (0 : Int32)) d_M_operand_231 ki_0 ?_
                      cases h
                      exact J.iret d_M_operand_232 rfl rfl rfl
                    · rw [if_pos c] at h
                      refine J.aload_n 1 d_M_operand_224 rfl rfl ?_
                      refine J.sipush (v := (260 : Int32)) d_M_operand_225 ks_260 ?_
                      obtain ⟨u75, m76, zm76, h⟩ := jbd_some h
                      refine J.cVv Y_M_awaits (As := [.int (260 : Int32)]) (rest := []) hG d_M_operand_228 mi_M_awaits mv_M_awaits lk_M_252 ⟨rfl, rfl, Nat.le_of_ble_eq_true rfl⟩ cq_109 cc_10 (c_M_awaits hG zm76) rfl (Nat.le_trans jcN (Nat.le_of_ble_eq_true rfl)) ?_
                      refine J.nop (pc' := 231) rfl ?_
                      refine J.iconst (v := (0 : Int32)) d_M_operand_231 ki_0 ?_
                      cases h
                      exact J.iret d_M_operand_232 rfl rfl rfl
                  · rw [if_pos c] at h
                    refine J.aload_n 1 d_M_operand_206 rfl rfl ?_
                    refine J.iconst (v := (1 : Int32)) d_M_operand_207 ki_1 ?_
                    obtain ⟨u77, m78, zm78, h⟩ := jbd_some h
                    refine J.cVv Y_M_wrong (As := [.int (1 : Int32)]) (rest := []) hG d_M_operand_208 mi_M_wrong mv_M_wrong lk_M_184 ⟨rfl, rfl, Nat.le_of_ble_eq_true rfl⟩ cq_109 cc_10 (c_M_wrong hG zm78) rfl (Nat.le_trans jcN (Nat.le_of_ble_eq_true rfl)) ?_
                    refine J.iconst (v := (0 : Int32)) d_M_operand_211 ki_0 ?_
                    cases h
                    exact J.iret d_M_operand_212 rfl rfl rfl
        · rw [if_neg c] at h
          refine J.aload_n 0 d_M_operand_114 rfl rfl ?_
          refine J.getI hG d_M_operand_115 fl_M_233 ck_109_27 ?_
          refine J.bipush (v := (8 : Int32)) d_M_operand_118 kb_8 ?_
          refine J.icmp_ne 128 d_M_operand_120 rfl (fun c => ?_) (fun c => ?_)
          · rw [if_neg c] at h
            refine J.aload_n 0 d_M_operand_128 rfl rfl ?_
            refine J.getI hG d_M_operand_129 fl_M_178 ck_109_21 ?_
            refine J.if_eq 137 d_M_operand_132 rfl (fun c => ?_) (fun c => ?_)
            · rw [if_pos c] at h
              refine J.aload_n 0 d_M_operand_137 rfl rfl ?_
              refine J.dup d_M_operand_138 (jr_cat _ _) ?_
              refine J.getI hG d_M_operand_139 fl_M_233 ck_109_27 ?_
              refine J.iconst (v := (1 : Int32)) d_M_operand_142 ki_1 ?_
              refine J.iadd d_M_operand_143 ?_
              obtain ⟨m79, hm79, h⟩ := jpu_some h
              refine J.putI hG d_M_operand_144 fl_M_233 fp_10_27 ck_109_27 hm79 ?_
              refine J.aload_n 0 d_M_operand_147 rfl rfl ?_
              refine J.bipush (v := (40 : Int32)) d_M_operand_148 kb_40 ?_
              refine J.nop (pc' := 150) rfl ?_
              obtain ⟨u80, m81, zm81, h⟩ := jbd_some h
              refine J.cVv Y_M_awaits (As := [.int (40 : Int32)]) (rest := []) hG d_M_operand_150 mi_M_awaits mv_M_awaits lk_M_252 ⟨rfl, rfl, Nat.le_of_ble_eq_true rfl⟩ cq_109 cc_10 (c_M_awaits hG zm81) rfl (Nat.le_trans jcN (Nat.le_of_ble_eq_true rfl)) ?_
              refine J.iconst (v := (0 : Int32)) d_M_operand_153 ki_0 ?_
              cases h
              exact J.iret d_M_operand_154 rfl rfl rfl
            · rw [if_neg c] at h
              refine J.iconst (v := (0 : Int32)) d_M_operand_135 ki_0 ?_
              cases h
              exact J.iret d_M_operand_136 rfl rfl rfl
          · rw [if_pos c] at h
            refine J.nop (pc' := 123) rfl ?_
            refine J.aload_n 0 d_M_operand_123 rfl rfl ?_
            refine J.iconst (v := (2 : Int32)) d_M_operand_124 ki_2 ?_
            obtain ⟨u82, m83, zm83, h⟩ := jbd_some h
            refine J.cVv Y_M_wrong (As := [.int (2 : Int32)]) (rest := []) hG d_M_operand_125 mi_M_wrong mv_M_wrong lk_M_184 ⟨rfl, rfl, Nat.le_of_ble_eq_true rfl⟩ cq_109 cc_10 (c_M_wrong hG zm83) rfl (Nat.le_trans jcN (Nat.le_of_ble_eq_true rfl)) ?_
            refine J.aload_n 0 d_M_operand_128 rfl rfl ?_
            refine J.getI hG d_M_operand_129 fl_M_178 ck_109_21 ?_
            refine J.if_eq 137 d_M_operand_132 rfl (fun c => ?_) (fun c => ?_)
            · rw [if_pos c] at h
              refine J.aload_n 0 d_M_operand_137 rfl rfl ?_
              refine J.dup d_M_operand_138 (jr_cat _ _) ?_
              refine J.getI hG d_M_operand_139 fl_M_233 ck_109_27 ?_
              refine J.iconst (v := (1 : Int32)) d_M_operand_142 ki_1 ?_
              refine J.iadd d_M_operand_143 ?_
              obtain ⟨m84, hm84, h⟩ := jpu_some h
              refine J.putI hG d_M_operand_144 fl_M_233 fp_10_27 ck_109_27 hm84 ?_
              refine J.aload_n 0 d_M_operand_147 rfl rfl ?_
              refine J.bipush (v := (40 : Int32)) d_M_operand_148 kb_40 ?_
              refine J.nop (pc' := 150) rfl ?_
              obtain ⟨u85, m86, zm86, h⟩ := jbd_some h
              refine J.cVv Y_M_awaits (As := [.int (40 : Int32)]) (rest := []) hG d_M_operand_150 mi_M_awaits mv_M_awaits lk_M_252 ⟨rfl, rfl, Nat.le_of_ble_eq_true rfl⟩ cq_109 cc_10 (c_M_awaits hG zm86) rfl (Nat.le_trans jcN (Nat.le_of_ble_eq_true rfl)) ?_
              refine J.iconst (v := (0 : Int32)) d_M_operand_153 ki_0 ?_
              cases h
              exact J.iret d_M_operand_154 rfl rfl rfl
            · rw [if_neg c] at h
              refine J.iconst (v := (0 : Int32)) d_M_operand_135 ki_0 ?_
              cases h
              exact J.iret d_M_operand_136 rfl rfl rfl
      · rw [if_neg c] at h
        refine J.aload_n 0 d_M_operand_74 rfl rfl ?_
        refine J.nop (pc' := 75) rfl ?_
        obtain ⟨u87, m88, zm88, h⟩ := jbd_some h
        refine J.cVv Y_M_knot (As := []) (rest := []) hG d_M_operand_75 mi_M_knot mv_M_knot lk_M_249 ⟨rfl, rfl, Nat.le_of_ble_eq_true rfl⟩ cq_109 cc_10 (c_M_knot hG zm88) rfl (Nat.le_trans jcN (Nat.le_of_ble_eq_true rfl)) ?_
        refine J.aload_n 0 d_M_operand_78 rfl rfl ?_
        refine J.getI hG d_M_operand_79 fl_M_178 ck_109_21 ?_
        refine J.if_eq 87 d_M_operand_82 rfl (fun c => ?_) (fun c => ?_)
        · rw [if_pos c] at h
          refine J.aload_n 0 d_M_operand_87 rfl rfl ?_
          refine J.iconst (v := (1 : Int32)) d_M_operand_88 ki_1 ?_
          refine J.aload_n 0 d_M_operand_89 rfl rfl ?_
          refine J.getI hG d_M_operand_90 fl_M_161 ck_109_20 ?_
          refine J.bipush (v := (12 : Int32)) d_M_operand_93 kb_12 ?_
          refine J.isub d_M_operand_95 ?_
          obtain ⟨u89, m90, zm90, h⟩ := jbd_some h
          refine J.cVv Y_M_out (As := [.int (1 : Int32), .int ((m88 109 20) - (12 : Int32))]) (rest := []) hG d_M_operand_96 mi_M_out mv_M_out lk_M_229 ⟨rfl, rfl, Nat.le_of_ble_eq_true rfl⟩ cq_109 cc_10 (c_M_out hG zm90) rfl (Nat.le_trans jcN (Nat.le_of_ble_eq_true rfl)) ?_
          refine J.aload_n 0 d_M_operand_99 rfl rfl ?_
          refine J.nop (pc' := 100) rfl ?_
          obtain ⟨u91, m92, zm92, h⟩ := jbd_some h
          refine J.cVv Y_M_next (As := []) (rest := []) hG d_M_operand_100 mi_M_next mv_M_next lk_M_188 ⟨rfl, rfl, Nat.le_of_ble_eq_true rfl⟩ cq_109 cc_10 (c_M_next hG zm92) rfl (Nat.le_trans jcN (Nat.le_of_ble_eq_true rfl)) ?_
          refine J.iconst (v := (1 : Int32)) d_M_operand_103 ki_1 ?_
          cases h
          exact J.iret d_M_operand_104 rfl rfl rfl
        · rw [if_neg c] at h
          refine J.iconst (v := (0 : Int32)) d_M_operand_85 ki_0 ?_
          cases h
          exact J.iret d_M_operand_86 rfl rfl rfl
  · rw [if_pos c] at h
    refine J.aload_n 0 d_M_operand_8 rfl rfl ?_
    refine J.getI hG d_M_operand_9 fl_M_161 ck_109_20 ?_
    refine J.sipush (v := (999 : Int32)) d_M_operand_12 ks_999 ?_
    refine J.icmp_le 23 d_M_operand_15 rfl (fun c => ?_) (fun c => ?_)
    · rw [if_pos c] at h
      refine J.aload_n 0 d_M_operand_23 rfl rfl ?_
      refine J.getI hG d_M_operand_24 fl_M_178 ck_109_21 ?_
      refine J.if_ne 34 d_M_operand_27 rfl (fun c => ?_) (fun c => ?_)
      · rw [if_neg c] at h
        refine J.aload_n 0 d_M_operand_34 rfl rfl ?_
        refine J.getI hG d_M_operand_35 fl_M_178 ck_109_21 ?_
        refine J.if_eq 43 d_M_operand_38 rfl (fun c => ?_) (fun c => ?_)
        · rw [if_pos c] at h
          refine J.aload_n 0 d_M_operand_43 rfl rfl ?_
          refine J.iconst (v := (0 : Int32)) d_M_operand_44 ki_0 ?_
          refine J.aload_n 0 d_M_operand_45 rfl rfl ?_
          refine J.getI hG d_M_operand_46 fl_M_161 ck_109_20 ?_
          obtain ⟨u93, m94, zm94, h⟩ := jbd_some h
          refine J.cVv Y_M_out (As := [.int (0 : Int32), .int (m 109 20)]) (rest := []) hG d_M_operand_49 mi_M_out mv_M_out lk_M_229 ⟨rfl, rfl, Nat.le_of_ble_eq_true rfl⟩ cq_109 cc_10 (c_M_out hG zm94) rfl (Nat.le_trans jcN (Nat.le_of_ble_eq_true rfl)) ?_
          refine J.aload_n 0 d_M_operand_52 rfl rfl ?_
          obtain ⟨u95, m96, zm96, h⟩ := jbd_some h
          refine J.cVv Y_M_next (As := []) (rest := []) hG d_M_operand_53 mi_M_next mv_M_next lk_M_188 ⟨rfl, rfl, Nat.le_of_ble_eq_true rfl⟩ cq_109 cc_10 (c_M_next hG zm96) rfl (Nat.le_trans jcN (Nat.le_of_ble_eq_true rfl)) ?_
          refine J.iconst (v := (1 : Int32)) d_M_operand_56 ki_1 ?_
          refine J.nop (pc' := 57) rfl ?_
          cases h
          exact J.iret d_M_operand_57 rfl rfl rfl
        · rw [if_neg c] at h
          refine J.iconst (v := (0 : Int32)) d_M_operand_41 ki_0 ?_
          cases h
          exact J.iret d_M_operand_42 rfl rfl rfl
      · rw [if_pos c] at h
        refine J.aload_n 0 d_M_operand_30 rfl rfl ?_
        obtain ⟨u97, m98, zm98, h⟩ := jbd_some h
        refine J.cVv Y_M_knot (As := []) (rest := []) hG d_M_operand_31 mi_M_knot mv_M_knot lk_M_249 ⟨rfl, rfl, Nat.le_of_ble_eq_true rfl⟩ cq_109 cc_10 (c_M_knot hG zm98) rfl (Nat.le_trans jcN (Nat.le_of_ble_eq_true rfl)) ?_
        refine J.aload_n 0 d_M_operand_34 rfl rfl ?_
        refine J.getI hG d_M_operand_35 fl_M_178 ck_109_21 ?_
        refine J.if_eq 43 d_M_operand_38 rfl (fun c => ?_) (fun c => ?_)
        · rw [if_pos c] at h
          refine J.aload_n 0 d_M_operand_43 rfl rfl ?_
          refine J.iconst (v := (0 : Int32)) d_M_operand_44 ki_0 ?_
          refine J.aload_n 0 d_M_operand_45 rfl rfl ?_
          refine J.getI hG d_M_operand_46 fl_M_161 ck_109_20 ?_
          obtain ⟨u99, m100, zm100, h⟩ := jbd_some h
          refine J.cVv Y_M_out (As := [.int (0 : Int32), .int (m98 109 20)]) (rest := []) hG d_M_operand_49 mi_M_out mv_M_out lk_M_229 ⟨rfl, rfl, Nat.le_of_ble_eq_true rfl⟩ cq_109 cc_10 (c_M_out hG zm100) rfl (Nat.le_trans jcN (Nat.le_of_ble_eq_true rfl)) ?_
          refine J.aload_n 0 d_M_operand_52 rfl rfl ?_
          obtain ⟨u101, m102, zm102, h⟩ := jbd_some h
          refine J.cVv Y_M_next (As := []) (rest := []) hG d_M_operand_53 mi_M_next mv_M_next lk_M_188 ⟨rfl, rfl, Nat.le_of_ble_eq_true rfl⟩ cq_109 cc_10 (c_M_next hG zm102) rfl (Nat.le_trans jcN (Nat.le_of_ble_eq_true rfl)) ?_
          refine J.iconst (v := (1 : Int32)) d_M_operand_56 ki_1 ?_
          refine J.nop (pc' := 57) rfl ?_
          cases h
          exact J.iret d_M_operand_57 rfl rfl rfl
        · rw [if_neg c] at h
          refine J.nop (pc' := 41) rfl ?_
          refine J.iconst (v := (0 : Int32)) d_M_operand_41 ki_0 ?_
          cases h
          exact J.iret d_M_operand_42 rfl rfl rfl
    · rw [if_neg c] at h
      refine J.nop (pc' := 18) rfl ?_
      refine J.aload_n 0 d_M_operand_18 rfl rfl ?_
      refine J.iconst (v := (2 : Int32)) d_M_operand_19 ki_2 ?_
      obtain ⟨u103, m104, zm104, h⟩ := jbd_some h
      refine J.cVv Y_M_wrong (As := [.int (2 : Int32)]) (rest := []) hG d_M_operand_20 mi_M_wrong mv_M_wrong lk_M_184 ⟨rfl, rfl, Nat.le_of_ble_eq_true rfl⟩ cq_109 cc_10 (c_M_wrong hG zm104) rfl (Nat.le_trans jcN (Nat.le_of_ble_eq_true rfl)) ?_
      refine J.aload_n 0 d_M_operand_23 rfl rfl ?_
      refine J.getI hG d_M_operand_24 fl_M_178 ck_109_21 ?_
      refine J.if_ne 34 d_M_operand_27 rfl (fun c => ?_) (fun c => ?_)
      · rw [if_neg c] at h
        refine J.aload_n 0 d_M_operand_34 rfl rfl ?_
        refine J.getI hG d_M_operand_35 fl_M_178 ck_109_21 ?_
        refine J.if_eq 43 d_M_operand_38 rfl (fun c => ?_) (fun c => ?_)
        · rw [if_pos c] at h
          refine J.aload_n 0 d_M_operand_43 rfl rfl ?_
          refine J.iconst (v := (0 : Int32)) d_M_operand_44 ki_0 ?_
          refine J.aload_n 0 d_M_operand_45 rfl rfl ?_
          refine J.getI hG d_M_operand_46 fl_M_161 ck_109_20 ?_
          obtain ⟨u105, m106, zm106, h⟩ := jbd_some h
          refine J.cVv Y_M_out (As := [.int (0 : Int32), .int (m104 109 20)]) (rest := []) hG d_M_operand_49 mi_M_out mv_M_out lk_M_229 ⟨rfl, rfl, Nat.le_of_ble_eq_true rfl⟩ cq_109 cc_10 (c_M_out hG zm106) rfl (Nat.le_trans jcN (Nat.le_of_ble_eq_true rfl)) ?_
          refine J.aload_n 0 d_M_operand_52 rfl rfl ?_
          obtain ⟨u107, m108, zm108, h⟩ := jbd_some h
          refine J.cVv Y_M_next (As := []) (rest := []) hG d_M_operand_53 mi_M_next mv_M_next lk_M_188 ⟨rfl, rfl, Nat.le_of_ble_eq_true rfl⟩ cq_109 cc_10 (c_M_next hG zm108) rfl (Nat.le_trans jcN (Nat.le_of_ble_eq_true rfl)) ?_
          refine J.iconst (v := (1 : Int32)) d_M_operand_56 ki_1 ?_
          refine J.nop (pc' := 57) rfl ?_
          cases h
          exact J.iret d_M_operand_57 rfl rfl rfl
        · rw [if_neg c] at h
          refine J.iconst (v := (0 : Int32)) d_M_operand_41 ki_0 ?_
          cases h
          exact J.iret d_M_operand_42 rfl rfl rfl
      · rw [if_pos c] at h
        refine J.aload_n 0 d_M_operand_30 rfl rfl ?_
        obtain ⟨u109, m110, zm110, h⟩ := jbd_some h
        refine J.cVv Y_M_knot (As := []) (rest := []) hG d_M_operand_31 mi_M_knot mv_M_knot lk_M_249 ⟨rfl, rfl, Nat.le_of_ble_eq_true rfl⟩ cq_109 cc_10 (c_M_knot hG zm110) rfl (Nat.le_trans jcN (Nat.le_of_ble_eq_true rfl)) ?_
        refine J.nop (pc' := 34) rfl ?_
        refine J.aload_n 0 d_M_operand_34 rfl rfl ?_
        refine J.getI hG d_M_operand_35 fl_M_178 ck_109_21 ?_
        refine J.if_eq 43 d_M_operand_38 rfl (fun c => ?_) (fun c => ?_)
        · rw [if_pos c] at h
          refine J.aload_n 0 d_M_operand_43 rfl rfl ?_
          refine J.iconst (v := (0 : Int32)) d_M_operand_44 ki_0 ?_
          refine J.aload_n 0 d_M_operand_45 rfl rfl ?_
          refine J.getI hG d_M_operand_46 fl_M_161 ck_109_20 ?_
          obtain ⟨u111, m112, zm112, h⟩ := jbd_some h
          refine J.cVv Y_M_out (As := [.int (0 : Int32), .int (m110 109 20)]) (rest := []) hG d_M_operand_49 mi_M_out mv_M_out lk_M_229 ⟨rfl, rfl, Nat.le_of_ble_eq_true rfl⟩ cq_109 cc_10 (c_M_out hG zm112) rfl (Nat.le_trans jcN (Nat.le_of_ble_eq_true rfl)) ?_
          refine J.aload_n 0 d_M_operand_52 rfl rfl ?_
          obtain ⟨u113, m114, zm114, h⟩ := jbd_some h
          refine J.cVv Y_M_next (As := []) (rest := []) hG d_M_operand_53 mi_M_next mv_M_next lk_M_188 ⟨rfl, rfl, Nat.le_of_ble_eq_true rfl⟩ cq_109 cc_10 (c_M_next hG zm114) rfl (Nat.le_trans jcN (Nat.le_of_ble_eq_true rfl)) ?_
          refine J.iconst (v := (1 : Int32)) d_M_operand_56 ki_1 ?_
          refine J.nop (pc' := 57) rfl ?_
          cases h
          exact J.iret d_M_operand_57 rfl rfl rfl
        · rw [if_neg c] at h
          refine J.iconst (v := (0 : Int32)) d_M_operand_41 ki_0 ?_
          cases h
          exact J.iret d_M_operand_42 rfl rfl rfl

def lp_M_pour_0 (v1 : Int32) (k52 : jMem → Option (Unit × jMem)) : Nat → jMem → Option (Unit × jMem)
  | 0, _ => none
  | n + 1, m =>
    if (m 109 26) ≤ 0 then
      k52 m
    else
      jld 1 m 117 ((m 109 26) - (1 : Int32)) fun x1 =>
      jbd (f_M_bind x1 m) fun x2 m3 =>
      if x2 < v1 then
        k52 m3
      else
        jpu m3 109 26 ((m3 109 26) - (1 : Int32)) fun m4 =>
        jld 1 m4 117 (m4 109 26) fun x5 =>
        jbd (f_M_out (2 : Int32) x5 m4) fun u6 m7 =>
        lp_M_pour_0 v1 k52 n m7
def f_M_pour (v1 : Int32) (m : jMem) : Option (Unit × jMem) :=
  lp_M_pour_0 v1 (fun m8 =>
    some ((), m8)) 5000 m
theorem jlp_M_pour_0 {G : jG} (hG : jFul G) (v1 : Int32) (k52 : jMem → Option (Unit × jMem))
    (hk52 : ∀ (m : jMem) (r : (Unit × jMem)), k52 m = some r → J G Y_M_pour 52 [] [] m (jrv r)) : ∀ (n : Nat) (m : jMem) (r : (Unit × jMem)), lp_M_pour_0 v1 k52 n m = some r → J G Y_M_pour 0 [(0, jr G 109), (1, .int v1)] [] m (jrv r) := by
  intro n
  induction n with
  | zero => intro m r h; unfold lp_M_pour_0 at h; cases h
  | succ n ih =>
    intro m r h
    unfold lp_M_pour_0 at h
    refine J.aload_n 0 d_M_pour_0 rfl rfl ?_
    refine J.getI hG d_M_pour_1 fl_M_223 ck_109_26 ?_
    refine J.if_le 52 d_M_pour_4 rfl (fun c => ?_) (fun c => ?_)
    · rw [if_pos c] at h
      exact J.sub (ls' := []) [] rfl (hk52  m _ h)
    · rw [if_neg c] at h
      refine J.aload_n 0 d_M_pour_7 rfl rfl ?_
      refine J.getF (n := 117) hG d_M_pour_8 fl_M_36 ck_109_25 rfl ?_
      refine J.aload_n 0 d_M_pour_11 rfl rfl ?_
      refine J.getI hG d_M_pour_12 fl_M_223 ck_109_26 ?_
      refine J.iconst (v := (1 : Int32)) d_M_pour_15 ki_1 ?_
      refine J.nop (pc' := 16) rfl ?_
      refine J.isub d_M_pour_16 ?_
      obtain ⟨x1, ex1, g, h⟩ := jld_some h
      refine J.il hG d_M_pour_17 g ex1 ?_
      obtain ⟨x2, m3, zm3, h⟩ := jbd_some h
      refine J.cSi Y_M_bind (As := [.int x1]) (rest := []) d_M_pour_18 mi_M_bind ms_M_bind lk_M_226 ⟨rfl, rfl, Nat.le_of_ble_eq_true rfl⟩ (c_M_bind hG zm3) rfl (Nat.le_trans jcN (Nat.le_of_ble_eq_true rfl)) ?_
      refine J.iload_n 1 d_M_pour_21 rfl rfl ?_
      refine J.icmp_lt 52 d_M_pour_22 rfl (fun c => ?_) (fun c => ?_)
      · rw [if_pos c] at h
        exact J.sub (ls' := []) [] rfl (hk52  m3 _ h)
      · rw [if_neg c] at h
        refine J.aload_n 0 d_M_pour_25 rfl rfl ?_
        refine J.dup d_M_pour_26 (jr_cat _ _) ?_
        refine J.getI hG d_M_pour_27 fl_M_223 ck_109_26 ?_
        refine J.nop (pc' := 30) rfl ?_
        refine J.iconst (v := (1 : Int32)) d_M_pour_30 ki_1 ?_
        refine J.isub d_M_pour_31 ?_
        obtain ⟨m4, hm4, h⟩ := jpu_some h
        refine J.putI hG d_M_pour_32 fl_M_223 fp_10_26 ck_109_26 hm4 ?_
        refine J.aload_n 0 d_M_pour_35 rfl rfl ?_
        refine J.iconst (v := (2 : Int32)) d_M_pour_36 ki_2 ?_
        refine J.aload_n 0 d_M_pour_37 rfl rfl ?_
        refine J.getF (n := 117) hG d_M_pour_38 fl_M_36 ck_109_25 rfl ?_
        refine J.aload_n 0 d_M_pour_41 rfl rfl ?_
        refine J.nop (pc' := 42) rfl ?_
        refine J.getI hG d_M_pour_42 fl_M_223 ck_109_26 ?_
        obtain ⟨x5, ex5, g, h⟩ := jld_some h
        refine J.il hG d_M_pour_45 g ex5 ?_
        obtain ⟨u6, m7, zm7, h⟩ := jbd_some h
        refine J.cVv Y_M_out (As := [.int (2 : Int32), .int x5]) (rest := []) hG d_M_pour_46 mi_M_out mv_M_out lk_M_229 ⟨rfl, rfl, Nat.le_of_ble_eq_true rfl⟩ cq_109 cc_10 (c_M_out hG zm7) rfl (Nat.le_trans jcN (Nat.le_of_ble_eq_true rfl)) ?_
        refine J.goto 0 d_M_pour_49 rfl ?_
        exact J.sub (ls' := [(0, jr G 109), (1, .int v1)]) [0, 1] rfl (ih  m7 _ h)
theorem c_M_pour {G : jG} (hG : jFul G) {v1 : Int32} {m : jMem} {r : (Unit × jMem)} (h : f_M_pour v1 m = some r) : jCt G Y_M_pour [jr G 109, .int v1] m (jrv r) := by
  refine jCt.ov (ls := [(0, jr G 109), (1, .int v1)]) mi_M_pour (jAvR (jAvI jAvN)) (Nat.le_of_ble_eq_true rfl) ?_ ⟨rfl, rfl⟩
  unfold f_M_pour at h
  refine J.sub (ls' := [(0, jr G 109), (1, .int v1)]) [0, 1] rfl ?_
  refine jlp_M_pour_0 hG v1 _ ?_ _ m _ h
  intro m8 r h
  cases h
  exact J.vret d_M_pour_52 rfl rfl

def f_M_sign (v1 : Int32) (m : jMem) : Option (Unit × jMem) :=
  jbd (f_M_bind v1 m) fun x1 m2 =>
  if x1 = (4 : Int32) then
    jbd (f_M_pour (5 : Int32) m2) fun u13 m14 =>
    if (m14 109 26) ≤ 0 then
      if (m14 109 21) = 0 then
        jbd (f_M_knot m14) fun u17 m18 =>
        if (m18 109 21) = 0 then
          jbd (f_M_awaits v1 m18) fun u19 m20 =>
          some ((), m20)
        else
          some ((), m18)
      else
        if (m14 109 21) = 0 then
          jbd (f_M_awaits v1 m14) fun u15 m16 =>
          some ((), m16)
        else
          some ((), m14)
    else
      jld 1 m14 117 ((m14 109 26) - (1 : Int32)) fun x21 =>
      jbd (f_M_bind x21 m14) fun x22 m23 =>
      if x22 = (4 : Int32) then
        jbd (f_M_wrong (1 : Int32) m23) fun u30 m31 =>
        if (m31 109 21) = 0 then
          jbd (f_M_knot m31) fun u34 m35 =>
          if (m35 109 21) = 0 then
            jbd (f_M_awaits v1 m35) fun u36 m37 =>
            some ((), m37)
          else
            some ((), m35)
        else
          if (m31 109 21) = 0 then
            jbd (f_M_awaits v1 m31) fun u32 m33 =>
            some ((), m33)
          else
            some ((), m31)
      else
        if (m23 109 21) = 0 then
          jbd (f_M_knot m23) fun u26 m27 =>
          if (m27 109 21) = 0 then
            jbd (f_M_awaits v1 m27) fun u28 m29 =>
            some ((), m29)
          else
            some ((), m27)
        else
          if (m23 109 21) = 0 then
            jbd (f_M_awaits v1 m23) fun u24 m25 =>
            some ((), m25)
          else
            some ((), m23)
  else
    jbd (f_M_bind v1 m2) fun x3 m4 =>
    jbd (f_M_pour x3 m4) fun u5 m6 =>
    if (m6 109 21) = 0 then
      jbd (f_M_knot m6) fun u9 m10 =>
      if (m10 109 21) = 0 then
        jbd (f_M_awaits v1 m10) fun u11 m12 =>
        some ((), m12)
      else
        some ((), m10)
    else
      if (m6 109 21) = 0 then
        jbd (f_M_awaits v1 m6) fun u7 m8 =>
        some ((), m8)
      else
        some ((), m6)
theorem c_M_sign {G : jG} (hG : jFul G) {v1 : Int32} {m : jMem} {r : (Unit × jMem)} (h : f_M_sign v1 m = some r) : jCt G Y_M_sign [jr G 109, .int v1] m (jrv r) := by
  refine jCt.ov (ls := [(0, jr G 109), (1, .int v1)]) mi_M_sign (jAvR (jAvI jAvN)) (Nat.le_of_ble_eq_true rfl) ?_ ⟨rfl, rfl⟩
  unfold f_M_sign at h
  refine J.iload_n 1 d_M_sign_0 rfl rfl ?_
  obtain ⟨x1, m2, zm2, h⟩ := jbd_some h
  refine J.cSi Y_M_bind (As := [.int v1]) (rest := []) d_M_sign_1 mi_M_bind ms_M_bind lk_M_226 ⟨rfl, rfl, Nat.le_of_ble_eq_true rfl⟩ (c_M_bind hG zm2) rfl (Nat.le_trans jcN (Nat.le_of_ble_eq_true rfl)) ?_
  refine J.iconst (v := (4 : Int32)) d_M_sign_4 ki_4 ?_
  refine J.icmp_ne 46 d_M_sign_5 rfl (fun c => ?_) (fun c => ?_)
  · rw [if_neg c] at h
    refine J.aload_n 0 d_M_sign_46 rfl rfl ?_
    refine J.iload_n 1 d_M_sign_47 rfl rfl ?_
    obtain ⟨x3, m4, zm4, h⟩ := jbd_some h
    refine J.cSi Y_M_bind (As := [.int v1]) (rest := [jr G 109]) d_M_sign_48 mi_M_bind ms_M_bind lk_M_226 ⟨rfl, rfl, Nat.le_of_ble_eq_true rfl⟩ (c_M_bind hG zm4) rfl (Nat.le_trans (jcR jcN) (Nat.le_of_ble_eq_true rfl)) ?_
    obtain ⟨u5, m6, zm6, h⟩ := jbd_some h
    refine J.cVv Y_M_pour (As := [.int x3]) (rest := []) hG d_M_sign_51 mi_M_pour mv_M_pour lk_M_246 ⟨rfl, rfl, Nat.le_of_ble_eq_true rfl⟩ cq_109 cc_10 (c_M_pour hG zm6) rfl (Nat.le_trans jcN (Nat.le_of_ble_eq_true rfl)) ?_
    refine J.aload_n 0 d_M_sign_54 rfl rfl ?_
    refine J.getI hG d_M_sign_55 fl_M_178 ck_109_21 ?_
    refine J.if_ne 65 d_M_sign_58 rfl (fun c => ?_) (fun c => ?_)
    · rw [if_neg c] at h
      refine J.aload_n 0 d_M_sign_65 rfl rfl ?_
      refine J.getI hG d_M_sign_66 fl_M_178 ck_109_21 ?_
      refine J.if_ne 77 d_M_sign_69 rfl (fun c => ?_) (fun c => ?_)
      · rw [if_neg c] at h
        cases h
        exact J.vret d_M_sign_77 rfl rfl
      · rw [if_pos c] at h
        refine J.aload_n 0 d_M_sign_72 rfl rfl ?_
        refine J.iload_n 1 d_M_sign_73 rfl rfl ?_
        obtain ⟨u7, m8, zm8, h⟩ := jbd_some h
        refine J.cVv Y_M_awaits (As := [.int v1]) (rest := []) hG d_M_sign_74 mi_M_awaits mv_M_awaits lk_M_252 ⟨rfl, rfl, Nat.le_of_ble_eq_true rfl⟩ cq_109 cc_10 (c_M_awaits hG zm8) rfl (Nat.le_trans jcN (Nat.le_of_ble_eq_true rfl)) ?_
        cases h
        exact J.vret d_M_sign_77 rfl rfl
    · rw [if_pos c] at h
      refine J.aload_n 0 d_M_sign_61 rfl rfl ?_
      refine J.nop (pc' := 62) rfl ?_
      obtain ⟨u9, m10, zm10, h⟩ := jbd_some h
      refine J.cVv Y_M_knot (As := []) (rest := []) hG d_M_sign_62 mi_M_knot mv_M_knot lk_M_249 ⟨rfl, rfl, Nat.le_of_ble_eq_true rfl⟩ cq_109 cc_10 (c_M_knot hG zm10) rfl (Nat.le_trans jcN (Nat.le_of_ble_eq_true rfl)) ?_
      refine J.aload_n 0 d_M_sign_65 rfl rfl ?_
      refine J.getI hG d_M_sign_66 fl_M_178 ck_109_21 ?_
      refine J.if_ne 77 d_M_sign_69 rfl (fun c => ?_) (fun c => ?_)
      · rw [if_neg c] at h
        cases h
        exact J.vret d_M_sign_77 rfl rfl
      · rw [if_pos c] at h
        refine J.aload_n 0 d_M_sign_72 rfl rfl ?_
        refine J.iload_n 1 d_M_sign_73 rfl rfl ?_
        obtain ⟨u11, m12, zm12, h⟩ := jbd_some h
        refine J.cVv Y_M_awaits (As := [.int v1]) (rest := []) hG d_M_sign_74 mi_M_awaits mv_M_awaits lk_M_252 ⟨rfl, rfl, Nat.le_of_ble_eq_true rfl⟩ cq_109 cc_10 (c_M_awaits hG zm12) rfl (Nat.le_trans jcN (Nat.le_of_ble_eq_true rfl)) ?_
        cases h
        exact J.vret d_M_sign_77 rfl rfl
  · rw [if_pos c] at h
    refine J.aload_n 0 d_M_sign_8 rfl rfl ?_
    refine J.iconst (v := (5 : Int32)) d_M_sign_9 ki_5 ?_
    obtain ⟨u13, m14, zm14, h⟩ := jbd_some h
    refine J.cVv Y_M_pour (As := [.int (5 : Int32)]) (rest := []) hG d_M_sign_10 mi_M_pour mv_M_pour lk_M_246 ⟨rfl, rfl, Nat.le_of_ble_eq_true rfl⟩ cq_109 cc_10 (c_M_pour hG zm14) rfl (Nat.le_trans jcN (Nat.le_of_ble_eq_true rfl)) ?_
    refine J.aload_n 0 d_M_sign_13 rfl rfl ?_
    refine J.nop (pc' := 14) rfl ?_
    refine J.getI hG d_M_sign_14 fl_M_223 ck_109_26 ?_
    refine J.if_le 54 d_M_sign_17 rfl (fun c => ?_) (fun c => ?_)
    · rw [if_pos c] at h
      refine J.aload_n 0 d_M_sign_54 rfl rfl ?_
      refine J.getI hG d_M_sign_55 fl_M_178 ck_109_21 ?_
      refine J.if_ne 65 d_M_sign_58 rfl (fun c => ?_) (fun c => ?_)
      · rw [if_neg c] at h
        refine J.aload_n 0 d_M_sign_65 rfl rfl ?_
        refine J.getI hG d_M_sign_66 fl_M_178 ck_109_21 ?_
        refine J.if_ne 77 d_M_sign_69 rfl (fun c => ?_) (fun c => ?_)
        · rw [if_neg c] at h
          cases h
          exact J.vret d_M_sign_77 rfl rfl
        · rw [if_pos c] at h
          refine J.aload_n 0 d_M_sign_72 rfl rfl ?_
          refine J.iload_n 1 d_M_sign_73 rfl rfl ?_
          obtain ⟨u15, m16, zm16, h⟩ := jbd_some h
          refine J.cVv Y_M_awaits (As := [.int v1]) (rest := []) hG d_M_sign_74 mi_M_awaits mv_M_awaits lk_M_252 ⟨rfl, rfl, Nat.le_of_ble_eq_true rfl⟩ cq_109 cc_10 (c_M_awaits hG zm16) rfl (Nat.le_trans jcN (Nat.le_of_ble_eq_true rfl)) ?_
          cases h
          exact J.vret d_M_sign_77 rfl rfl
      · rw [if_pos c] at h
        refine J.aload_n 0 d_M_sign_61 rfl rfl ?_
        obtain ⟨u17, m18, zm18, h⟩ := jbd_some h
        refine J.cVv Y_M_knot (As := []) (rest := []) hG d_M_sign_62 mi_M_knot mv_M_knot lk_M_249 ⟨rfl, rfl, Nat.le_of_ble_eq_true rfl⟩ cq_109 cc_10 (c_M_knot hG zm18) rfl (Nat.le_trans jcN (Nat.le_of_ble_eq_true rfl)) ?_
        refine J.aload_n 0 d_M_sign_65 rfl rfl ?_
        refine J.getI hG d_M_sign_66 fl_M_178 ck_109_21 ?_
        refine J.if_ne 77 d_M_sign_69 rfl (fun c => ?_) (fun c => ?_)
        · rw [if_neg c] at h
          cases h
          exact J.vret d_M_sign_77 rfl rfl
        · rw [if_pos c] at h
          refine J.nop (pc' := 72) rfl ?_
          refine J.aload_n 0 d_M_sign_72 rfl rfl ?_
          refine J.iload_n 1 d_M_sign_73 rfl rfl ?_
          obtain ⟨u19, m20, zm20, h⟩ := jbd_some h
          refine J.cVv Y_M_awaits (As := [.int v1]) (rest := []) hG d_M_sign_74 mi_M_awaits mv_M_awaits lk_M_252 ⟨rfl, rfl, Nat.le_of_ble_eq_true rfl⟩ cq_109 cc_10 (c_M_awaits hG zm20) rfl (Nat.le_trans jcN (Nat.le_of_ble_eq_true rfl)) ?_
          cases h
          exact J.vret d_M_sign_77 rfl rfl
    · rw [if_neg c] at h
      refine J.aload_n 0 d_M_sign_20 rfl rfl ?_
      refine J.getF (n := 117) hG d_M_sign_21 fl_M_36 ck_109_25 rfl ?_
      refine J.aload_n 0 d_M_sign_24 rfl rfl ?_
      refine J.getI hG d_M_sign_25 fl_M_223 ck_109_26 ?_
      refine J.iconst (v := (1 : Int32)) d_M_sign_28 ki_1 ?_
      refine J.isub d_M_sign_29 ?_
      refine J.nop (pc' := 30) rfl ?_
      obtain ⟨x21, ex21, g, h⟩ := jld_some h
      refine J.il hG d_M_sign_30 g ex21 ?_
      obtain ⟨x22, m23, zm23, h⟩ := jbd_some h
      refine J.cSi Y_M_bind (As := [.int x21]) (rest := []) d_M_sign_31 mi_M_bind ms_M_bind lk_M_226 ⟨rfl, rfl, Nat.le_of_ble_eq_true rfl⟩ (c_M_bind hG zm23) rfl (Nat.le_trans jcN (Nat.le_of_ble_eq_true rfl)) ?_
      refine J.iconst (v := (4 : Int32)) d_M_sign_34 ki_4 ?_
      refine J.icmp_ne 54 d_M_sign_35 rfl (fun c => ?_) (fun c => ?_)
      · rw [if_neg c] at h
        refine J.aload_n 0 d_M_sign_54 rfl rfl ?_
        refine J.getI hG d_M_sign_55 fl_M_178 ck_109_21 ?_
        refine J.if_ne 65 d_M_sign_58 rfl (fun c => ?_) (fun c => ?_)
        · rw [if_neg c] at h
          refine J.aload_n 0 d_M_sign_65 rfl rfl ?_
          refine J.getI hG d_M_sign_66 fl_M_178 ck_109_21 ?_
          refine J.if_ne 77 d_M_sign_69 rfl (fun c => ?_) (fun c => ?_)
          · rw [if_neg c] at h
            cases h
            exact J.vret d_M_sign_77 rfl rfl
          · rw [if_pos c] at h
            refine J.aload_n 0 d_M_sign_72 rfl rfl ?_
            refine J.iload_n 1 d_M_sign_73 rfl rfl ?_
            obtain ⟨u24, m25, zm25, h⟩ := jbd_some h
            refine J.cVv Y_M_awaits (As := [.int v1]) (rest := []) hG d_M_sign_74 mi_M_awaits mv_M_awaits lk_M_252 ⟨rfl, rfl, Nat.le_of_ble_eq_true rfl⟩ cq_109 cc_10 (c_M_awaits hG zm25) rfl (Nat.le_trans jcN (Nat.le_of_ble_eq_true rfl)) ?_
            cases h
            exact J.vret d_M_sign_77 rfl rfl
        · rw [if_pos c] at h
          refine J.aload_n 0 d_M_sign_61 rfl rfl ?_
          obtain ⟨u26, m27, zm27, h⟩ := jbd_some h
          refine J.cVv Y_M_knot (As := []) (rest := []) hG d_M_sign_62 mi_M_knot mv_M_knot lk_M_249 ⟨rfl, rfl, Nat.le_of_ble_eq_true rfl⟩ cq_109 cc_10 (c_M_knot hG zm27) rfl (Nat.le_trans jcN (Nat.le_of_ble_eq_true rfl)) ?_
          refine J.aload_n 0 d_M_sign_65 rfl rfl ?_
          refine J.getI hG d_M_sign_66 fl_M_178 ck_109_21 ?_
          refine J.if_ne 77 d_M_sign_69 rfl (fun c => ?_) (fun c => ?_)
          · rw [if_neg c] at h
            cases h
            exact J.vret d_M_sign_77 rfl rfl
          · rw [if_pos c] at h
            refine J.nop (pc' := 72) rfl ?_
            refine J.aload_n 0 d_M_sign_72 rfl rfl ?_
            refine J.iload_n 1 d_M_sign_73 rfl rfl ?_
            obtain ⟨u28, m29, zm29, h⟩ := jbd_some h
            refine J.cVv Y_M_awaits (As := [.int v1]) (rest := []) hG d_M_sign_74 mi_M_awaits mv_M_awaits lk_M_252 ⟨rfl, rfl, Nat.le_of_ble_eq_true rfl⟩ cq_109 cc_10 (c_M_awaits hG zm29) rfl (Nat.le_trans jcN (Nat.le_of_ble_eq_true rfl)) ?_
            cases h
            exact J.vret d_M_sign_77 rfl rfl
      · rw [if_pos c] at h
        refine J.aload_n 0 d_M_sign_38 rfl rfl ?_
        refine J.iconst (v := (1 : Int32)) d_M_sign_39 ki_1 ?_
        obtain ⟨u30, m31, zm31, h⟩ := jbd_some h
        refine J.cVv Y_M_wrong (As := [.int (1 : Int32)]) (rest := []) hG d_M_sign_40 mi_M_wrong mv_M_wrong lk_M_184 ⟨rfl, rfl, Nat.le_of_ble_eq_true rfl⟩ cq_109 cc_10 (c_M_wrong hG zm31) rfl (Nat.le_trans jcN (Nat.le_of_ble_eq_true rfl)) ?_
        refine J.goto 54 d_M_sign_43 rfl ?_
        refine J.aload_n 0 d_M_sign_54 rfl rfl ?_
        refine J.getI hG d_M_sign_55 fl_M_178 ck_109_21 ?_
        refine J.if_ne 65 d_M_sign_58 rfl (fun c => ?_) (fun c => ?_)
        · rw [if_neg c] at h
          refine J.aload_n 0 d_M_sign_65 rfl rfl ?_
          refine J.getI hG d_M_sign_66 fl_M_178 ck_109_21 ?_
          refine J.if_ne 77 d_M_sign_69 rfl (fun c => ?_) (fun c => ?_)
          · rw [if_neg c] at h
            cases h
            exact J.vret d_M_sign_77 rfl rfl
          · rw [if_pos c] at h
            refine J.aload_n 0 d_M_sign_72 rfl rfl ?_
            refine J.iload_n 1 d_M_sign_73 rfl rfl ?_
            obtain ⟨u32, m33, zm33, h⟩ := jbd_some h
            refine J.cVv Y_M_awaits (As := [.int v1]) (rest := []) hG d_M_sign_74 mi_M_awaits mv_M_awaits lk_M_252 ⟨rfl, rfl, Nat.le_of_ble_eq_true rfl⟩ cq_109 cc_10 (c_M_awaits hG zm33) rfl (Nat.le_trans jcN (Nat.le_of_ble_eq_true rfl)) ?_
            cases h
            exact J.vret d_M_sign_77 rfl rfl
        · rw [if_pos c] at h
          refine J.aload_n 0 d_M_sign_61 rfl rfl ?_
          obtain ⟨u34, m35, zm35, h⟩ := jbd_some h
          refine J.cVv Y_M_knot (As := []) (rest := []) hG d_M_sign_62 mi_M_knot mv_M_knot lk_M_249 ⟨rfl, rfl, Nat.le_of_ble_eq_true rfl⟩ cq_109 cc_10 (c_M_knot hG zm35) rfl (Nat.le_trans jcN (Nat.le_of_ble_eq_true rfl)) ?_
          refine J.aload_n 0 d_M_sign_65 rfl rfl ?_
          refine J.getI hG d_M_sign_66 fl_M_178 ck_109_21 ?_
          refine J.if_ne 77 d_M_sign_69 rfl (fun c => ?_) (fun c => ?_)
          · rw [if_neg c] at h
            cases h
            exact J.vret d_M_sign_77 rfl rfl
          · rw [if_pos c] at h
            refine J.nop (pc' := 72) rfl ?_
            refine J.aload_n 0 d_M_sign_72 rfl rfl ?_
            refine J.iload_n 1 d_M_sign_73 rfl rfl ?_
            obtain ⟨u36, m37, zm37, h⟩ := jbd_some h
            refine J.cVv Y_M_awaits (As := [.int v1]) (rest := []) hG d_M_sign_74 mi_M_awaits mv_M_awaits lk_M_252 ⟨rfl, rfl, Nat.le_of_ble_eq_true rfl⟩ cq_109 cc_10 (c_M_awaits hG zm37) rfl (Nat.le_trans jcN (Nat.le_of_ble_eq_true rfl)) ?_
            cases h
            exact J.vret d_M_sign_77 rfl rfl

def lp_M_expression_14 (k109 : jMem → Option (Unit × jMem)) : Nat → Int32 → Int32 → jMem → Option (Unit × jMem)
  | 0, _, _, _ => none
  | n + 1, v1, v2, m =>
    if (m 109 21) = 0 then
      if v2 = 0 then
        k109 m
      else
        if v1 = 0 then
          jbd (f_M_operand m) fun x15 m16 =>
          lp_M_expression_14 k109 n x15 v2 m16
        else
          jbd (f_M_between m) fun x3 m4 =>
          if x3 = 0 then
            jbd (f_M_isSign (41 : Int32) m4) fun x5 m6 =>
            if x5 = 0 then
              lp_M_expression_14 k109 n v1 (0 : Int32) m6
            else
              if (m6 109 27) ≤ 0 then
                lp_M_expression_14 k109 n v1 (0 : Int32) m6
              else
                jbd (f_M_pour (1 : Int32) m6) fun u7 m8 =>
                jpu m8 109 26 ((m8 109 26) - (1 : Int32)) fun m9 =>
                jpu m9 109 27 ((m9 109 27) - (1 : Int32)) fun m10 =>
                jbd (f_M_next m10) fun u11 m12 =>
                lp_M_expression_14 k109 n v1 v2 m12
          else
            jbd (f_M_sign x3 m4) fun u13 m14 =>
            lp_M_expression_14 k109 n (0 : Int32) v2 m14
    else
      k109 m
def f_M_expression (m : jMem) : Option (Unit × jMem) :=
  jpu m 109 26 (0 : Int32) fun m1 =>
  jpu m1 109 27 (0 : Int32) fun m2 =>
  lp_M_expression_14 (fun m17 =>
    if (m17 109 21) = 0 then
      if (m17 109 27) ≤ 0 then
        if (m17 109 21) = 0 then
          jbd (f_M_pour (1 : Int32) m17) fun u18 m19 =>
          some ((), m19)
        else
          some ((), m17)
      else
        jbd (f_M_wrong (1 : Int32) m17) fun u20 m21 =>
        if (m21 109 21) = 0 then
          jbd (f_M_pour (1 : Int32) m21) fun u22 m23 =>
          some ((), m23)
        else
          some ((), m21)
    else
      some ((), m17)) 5000 (0 : Int32) (1 : Int32) m2
theorem jlp_M_expression_14 {G : jG} (hG : jFul G) (k109 : jMem → Option (Unit × jMem))
    (hk109 : ∀ (m : jMem) (r : (Unit × jMem)), k109 m = some r → J G Y_M_expression 109 [(0, jr G 109)] [] m (jrv r)) : ∀ (n : Nat) (v1 : Int32) (v2 : Int32) (m : jMem) (r : (Unit × jMem)), lp_M_expression_14 k109 n v1 v2 m = some r → J G Y_M_expression 14 [(0, jr G 109), (1, .int v1), (2, .int v2)] [] m (jrv r) := by
  intro n
  induction n with
  | zero => intro v1 v2 m r h; unfold lp_M_expression_14 at h; cases h
  | succ n ih =>
    intro v1 v2 m r h
    unfold lp_M_expression_14 at h
    refine J.aload_n 0 d_M_expression_14 rfl rfl ?_
    refine J.getI hG d_M_expression_15 fl_M_178 ck_109_21 ?_
    refine J.if_ne 109 d_M_expression_18 rfl (fun c => ?_) (fun c => ?_)
    · rw [if_neg c] at h
      exact J.sub (ls' := [(0, jr G 109)]) [0] rfl (hk109  m _ h)
    · rw [if_pos c] at h
      refine J.iload_n 2 d_M_expression_21 rfl rfl ?_
      refine J.if_eq 109 d_M_expression_22 rfl (fun c => ?_) (fun c => ?_)
      · rw [if_pos c] at h
        exact J.sub (ls' := [(0, jr G 109)]) [0] rfl (hk109  m _ h)
      · rw [if_neg c] at h
        refine J.iload_n 1 d_M_expression_25 rfl rfl ?_
        refine J.if_ne 37 d_M_expression_26 rfl (fun c => ?_) (fun c => ?_)
        · rw [if_neg c] at h
          refine J.aload_n 0 d_M_expression_37 rfl rfl ?_
          obtain ⟨x3, m4, zm4, h⟩ := jbd_some h
          refine J.cVi Y_M_between (As := []) (rest := []) hG d_M_expression_38 mi_M_between mv_M_between lk_M_240 ⟨rfl, rfl, Nat.le_of_ble_eq_true rfl⟩ cq_109 cc_10 (c_M_between hG zm4) rfl (Nat.le_trans jcN (Nat.le_of_ble_eq_true rfl)) ?_
          refine J.istore_n (lv := [(3, .int x3), (0, jr G 109), (1, .int v1), (2, .int v2)]) d_M_expression_41 rfl (by decide) rfl ?_
          refine J.iload_n 0 d_M_expression_42 rfl rfl ?_
          refine J.if_eq 56 d_M_expression_43 rfl (fun c => ?_) (fun c => ?_)
          · rw [if_pos c] at h
            refine J.aload_n 1 d_M_expression_56 rfl rfl ?_
            refine J.bipush (v := (41 : Int32)) d_M_expression_57 kb_41 ?_
            obtain ⟨x5, m6, zm6, h⟩ := jbd_some h
            refine J.cVi Y_M_isSign (As := [.int (41 : Int32)]) (rest := []) hG d_M_expression_59 mi_M_isSign mv_M_isSign lk_M_201 ⟨rfl, rfl, Nat.le_of_ble_eq_true rfl⟩ cq_109 cc_10 (c_M_isSign hG zm6) rfl (Nat.le_trans jcN (Nat.le_of_ble_eq_true rfl)) ?_
            refine J.if_eq 104 d_M_expression_62 rfl (fun c => ?_) (fun c => ?_)
            · rw [if_pos c] at h
              refine J.iconst (v := (0 : Int32)) d_M_expression_104 ki_0 ?_
              refine J.istore_n (lv := [(2, .int (0 : Int32)), (3, .int x3), (0, jr G 109), (1, .int v1)]) d_M_expression_105 rfl (by decide) rfl ?_
              refine J.goto 14 d_M_expression_106 rfl ?_
              exact J.sub (ls' := [(0, jr G 109), (1, .int v1), (2, .int (0 : Int32))]) [2, 3, 0] rfl (ih v1 (0 : Int32) m6 _ h)
            · rw [if_neg c] at h
              refine J.aload_n 1 d_M_expression_65 rfl rfl ?_
              refine J.getI hG d_M_expression_66 fl_M_233 ck_109_27 ?_
              refine J.if_le 104 d_M_expression_69 rfl (fun c => ?_) (fun c => ?_)
              · rw [if_pos c] at h
                refine J.iconst (v := (0 : Int32)) d_M_expression_104 ki_0 ?_
                refine J.istore_n (lv := [(2, .int (0 : Int32)), (3, .int x3), (0, jr G 109), (1, .int v1)]) d_M_expression_105 rfl (by decide) rfl ?_
                refine J.goto 14 d_M_expression_106 rfl ?_
                exact J.sub (ls' := [(0, jr G 109), (1, .int v1), (2, .int (0 : Int32))]) [2, 3, 0] rfl (ih v1 (0 : Int32) m6 _ h)
              · rw [if_neg c] at h
                refine J.aload_n 1 d_M_expression_72 rfl rfl ?_
                refine J.nop (pc' := 73) rfl ?_
                refine J.iconst (v := (1 : Int32)) d_M_expression_73 ki_1 ?_
                obtain ⟨u7, m8, zm8, h⟩ := jbd_some h
                refine J.cVv Y_M_pour (As := [.int (1 : Int32)]) (rest := []) hG d_M_expression_74 mi_M_pour mv_M_pour lk_M_246 ⟨rfl, rfl, Nat.le_of_ble_eq_true rfl⟩ cq_109 cc_10 (c_M_pour hG zm8) rfl (Nat.le_trans jcN (Nat.le_of_ble_eq_true rfl)) ?_
                refine J.aload_n 1 d_M_expression_77 rfl rfl ?_
                refine J.dup d_M_expression_78 (jr_cat _ _) ?_
                refine J.getI hG d_M_expression_79 fl_M_223 ck_109_26 ?_
                refine J.iconst (v := (1 : Int32)) d_M_expression_82 ki_1 ?_
                refine J.isub d_M_expression_83 ?_
                obtain ⟨m9, hm9, h⟩ := jpu_some h
                refine J.putI hG d_M_expression_84 fl_M_223 fp_10_26 ck_109_26 hm9 ?_
                refine J.nop (pc' := 87) rfl ?_
                refine J.aload_n 1 d_M_expression_87 rfl rfl ?_
                refine J.dup d_M_expression_88 (jr_cat _ _) ?_
                refine J.getI hG d_M_expression_89 fl_M_233 ck_109_27 ?_
                refine J.iconst (v := (1 : Int32)) d_M_expression_92 ki_1 ?_
                refine J.isub d_M_expression_93 ?_
                obtain ⟨m10, hm10, h⟩ := jpu_some h
                refine J.putI hG d_M_expression_94 fl_M_233 fp_10_27 ck_109_27 hm10 ?_
                refine J.aload_n 1 d_M_expression_97 rfl rfl ?_
                obtain ⟨u11, m12, zm12, h⟩ := jbd_some h
                refine J.cVv Y_M_next (As := []) (rest := []) hG d_M_expression_98 mi_M_next mv_M_next lk_M_188 ⟨rfl, rfl, Nat.le_of_ble_eq_true rfl⟩ cq_109 cc_10 (c_M_next hG zm12) rfl (Nat.le_trans jcN (Nat.le_of_ble_eq_true rfl)) ?_
                refine J.nop (pc' := 101) rfl ?_
                refine J.goto 106 d_M_expression_101 rfl ?_
                refine J.goto 14 d_M_expression_106 rfl ?_
                exact J.sub (ls' := [(0, jr G 109), (1, .int v1), (2, .int v2)]) [1, 2, 3] rfl (ih v1 v2 m12 _ h)
          · rw [if_neg c] at h
            refine J.aload_n 1 d_M_expression_46 rfl rfl ?_
            refine J.iload_n 0 d_M_expression_47 rfl rfl ?_
            obtain ⟨u13, m14, zm14, h⟩ := jbd_some h
            refine J.cVv Y_M_sign (As := [.int x3]) (rest := []) hG d_M_expression_48 mi_M_sign mv_M_sign lk_M_243 ⟨rfl, rfl, Nat.le_of_ble_eq_true rfl⟩ cq_109 cc_10 (c_M_sign hG zm14) rfl (Nat.le_trans jcN (Nat.le_of_ble_eq_true rfl)) ?_
            refine J.nop (pc' := 51) rfl ?_
            refine J.iconst (v := (0 : Int32)) d_M_expression_51 ki_0 ?_
            refine J.istore_n (lv := [(1, .int (0 : Int32)), (3, .int x3), (0, jr G 109), (2, .int v2)]) d_M_expression_52 rfl (by decide) rfl ?_
            refine J.goto 106 d_M_expression_53 rfl ?_
            refine J.goto 14 d_M_expression_106 rfl ?_
            exact J.sub (ls' := [(0, jr G 109), (1, .int (0 : Int32)), (2, .int v2)]) [2, 0, 3] rfl (ih (0 : Int32) v2 m14 _ h)
        · rw [if_pos c] at h
          refine J.aload_n 0 d_M_expression_29 rfl rfl ?_
          refine J.nop (pc' := 30) rfl ?_
          obtain ⟨x15, m16, zm16, h⟩ := jbd_some h
          refine J.cVi Y_M_operand (As := []) (rest := []) hG d_M_expression_30 mi_M_operand mv_M_operand lk_M_236 ⟨rfl, rfl, Nat.le_of_ble_eq_true rfl⟩ cq_109 cc_10 (c_M_operand hG zm16) rfl (Nat.le_trans jcN (Nat.le_of_ble_eq_true rfl)) ?_
          refine J.istore_n (lv := [(1, .int x15), (0, jr G 109), (2, .int v2)]) d_M_expression_33 rfl (by decide) rfl ?_
          refine J.goto 14 d_M_expression_34 rfl ?_
          exact J.sub (ls' := [(0, jr G 109), (1, .int x15), (2, .int v2)]) [1, 0, 2] rfl (ih x15 v2 m16 _ h)
theorem c_M_expression {G : jG} (hG : jFul G) {m : jMem} {r : (Unit × jMem)} (h : f_M_expression m = some r) : jCt G Y_M_expression [jr G 109] m (jrv r) := by
  refine jCt.ov (ls := [(0, jr G 109)]) mi_M_expression (jAvR jAvN) (Nat.le_of_ble_eq_true rfl) ?_ ⟨rfl, rfl⟩
  unfold f_M_expression at h
  refine J.aload_n 0 d_M_expression_0 rfl rfl ?_
  refine J.iconst (v := (0 : Int32)) d_M_expression_1 ki_0 ?_
  obtain ⟨m1, hm1, h⟩ := jpu_some h
  refine J.putI hG d_M_expression_2 fl_M_223 fp_10_26 ck_109_26 hm1 ?_
  refine J.aload_n 0 d_M_expression_5 rfl rfl ?_
  refine J.iconst (v := (0 : Int32)) d_M_expression_6 ki_0 ?_
  obtain ⟨m2, hm2, h⟩ := jpu_some h
  refine J.putI hG d_M_expression_7 fl_M_233 fp_10_27 ck_109_27 hm2 ?_
  refine J.iconst (v := (0 : Int32)) d_M_expression_10 ki_0 ?_
  refine J.istore_n (lv := [(1, .int (0 : Int32)), (0, jr G 109)]) d_M_expression_11 rfl (by decide) rfl ?_
  refine J.nop (pc' := 12) rfl ?_
  refine J.iconst (v := (1 : Int32)) d_M_expression_12 ki_1 ?_
  refine J.istore_n (lv := [(2, .int (1 : Int32)), (1, .int (0 : Int32)), (0, jr G 109)]) d_M_expression_13 rfl (by decide) rfl ?_
  refine J.sub (ls' := [(0, jr G 109), (1, .int (0 : Int32)), (2, .int (1 : Int32))]) [2, 1, 0] rfl ?_
  refine jlp_M_expression_14 hG _ ?_ _ (0 : Int32) (1 : Int32) m2 _ h
  intro m17 r h
  refine J.aload_n 0 d_M_expression_109 rfl rfl ?_
  refine J.getI hG d_M_expression_110 fl_M_178 ck_109_21 ?_
  refine J.if_eq 117 d_M_expression_113 rfl (fun c => ?_) (fun c => ?_)
  · rw [if_pos c] at h
    refine J.aload_n 0 d_M_expression_117 rfl rfl ?_
    refine J.getI hG d_M_expression_118 fl_M_233 ck_109_27 ?_
    refine J.if_le 129 d_M_expression_121 rfl (fun c => ?_) (fun c => ?_)
    · rw [if_pos c] at h
      refine J.aload_n 0 d_M_expression_129 rfl rfl ?_
      refine J.getI hG d_M_expression_130 fl_M_178 ck_109_21 ?_
      refine J.if_ne 141 d_M_expression_133 rfl (fun c => ?_) (fun c => ?_)
      · rw [if_neg c] at h
        cases h
        exact J.vret d_M_expression_141 rfl rfl
      · rw [if_pos c] at h
        refine J.aload_n 0 d_M_expression_136 rfl rfl ?_
        refine J.iconst (v := (1 : Int32)) d_M_expression_137 ki_1 ?_
        obtain ⟨u18, m19, zm19, h⟩ := jbd_some h
        refine J.cVv Y_M_pour (As := [.int (1 : Int32)]) (rest := []) hG d_M_expression_138 mi_M_pour mv_M_pour lk_M_246 ⟨rfl, rfl, Nat.le_of_ble_eq_true rfl⟩ cq_109 cc_10 (c_M_pour hG zm19) rfl (Nat.le_trans jcN (Nat.le_of_ble_eq_true rfl)) ?_
        cases h
        exact J.vret d_M_expression_141 rfl rfl
    · rw [if_neg c] at h
      refine J.aload_n 0 d_M_expression_124 rfl rfl ?_
      refine J.iconst (v := (1 : Int32)) d_M_expression_125 ki_1 ?_
      obtain ⟨u20, m21, zm21, h⟩ := jbd_some h
      refine J.cVv Y_M_wrong (As := [.int (1 : Int32)]) (rest := []) hG d_M_expression_126 mi_M_wrong mv_M_wrong lk_M_184 ⟨rfl, rfl, Nat.le_of_ble_eq_true rfl⟩ cq_109 cc_10 (c_M_wrong hG zm21) rfl (Nat.le_trans jcN (Nat.le_of_ble_eq_true rfl)) ?_
      refine J.aload_n 0 d_M_expression_129 rfl rfl ?_
      refine J.getI hG d_M_expression_130 fl_M_178 ck_109_21 ?_
      refine J.nop (pc' := 133) rfl ?_
      refine J.if_ne 141 d_M_expression_133 rfl (fun c => ?_) (fun c => ?_)
      · rw [if_neg c] at h
        cases h
        exact J.vret d_M_expression_141 rfl rfl
      · rw [if_pos c] at h
        refine J.aload_n 0 d_M_expression_136 rfl rfl ?_
        refine J.iconst (v := (1 : Int32)) d_M_expression_137 ki_1 ?_
        obtain ⟨u22, m23, zm23, h⟩ := jbd_some h
        refine J.cVv Y_M_pour (As := [.int (1 : Int32)]) (rest := []) hG d_M_expression_138 mi_M_pour mv_M_pour lk_M_246 ⟨rfl, rfl, Nat.le_of_ble_eq_true rfl⟩ cq_109 cc_10 (c_M_pour hG zm23) rfl (Nat.le_trans jcN (Nat.le_of_ble_eq_true rfl)) ?_
        cases h
        exact J.vret d_M_expression_141 rfl rfl
  · rw [if_neg c] at h
    cases h
    exact J.vret d_M_expression_116 rfl rfl

def f_M_habit (v1 : Int32) (m : jMem) : Option (Unit × jMem) :=
  jst 2 m 113 ((9 : Int32) + (m 109 12)) (jbz v1) fun m1 =>
  jst 1 m1 115 ((9 : Int32) + (m 109 12)) (m1 109 5) fun m2 =>
  jbd (f_M_expression m2) fun u3 m4 =>
  if (m4 109 21) = 0 then
    jst 1 m4 114 ((9 : Int32) + (m 109 12)) (0 : Int32) fun m5 =>
    if (m5 109 19) = 0 then
      if (m5 109 20) = (3 : Int32) then
        jbd (f_M_next m5) fun u10 m11 =>
        jbd (f_M_writers (0 : Int32) m11) fun x12 m13 =>
        jst 1 m13 114 ((9 : Int32) + (m 109 12)) x12 fun m14 =>
        if (m14 109 21) = 0 then
          jld 1 m14 114 ((9 : Int32) + (m 109 12)) fun x17 =>
          if x17 = 0 then
            jbd (f_M_wrong (1 : Int32) m14) fun u20 m21 =>
            if (m21 109 21) = 0 then
              jpu m21 109 12 ((m21 109 12) + (1 : Int32)) fun m22 =>
              jst 1 m22 115 ((9 : Int32) + (m22 109 12)) (m22 109 5) fun m23 =>
              some ((), m23)
            else
              some ((), m21)
          else
            if (m14 109 21) = 0 then
              jpu m14 109 12 ((m14 109 12) + (1 : Int32)) fun m18 =>
              jst 1 m18 115 ((9 : Int32) + (m18 109 12)) (m18 109 5) fun m19 =>
              some ((), m19)
            else
              some ((), m14)
        else
          if (m14 109 21) = 0 then
            jpu m14 109 12 ((m14 109 12) + (1 : Int32)) fun m15 =>
            jst 1 m15 115 ((9 : Int32) + (m15 109 12)) (m15 109 5) fun m16 =>
            some ((), m16)
          else
            some ((), m14)
      else
        if (m5 109 21) = 0 then
          jpu m5 109 12 ((m5 109 12) + (1 : Int32)) fun m8 =>
          jst 1 m8 115 ((9 : Int32) + (m8 109 12)) (m8 109 5) fun m9 =>
          some ((), m9)
        else
          some ((), m5)
    else
      if (m5 109 21) = 0 then
        jpu m5 109 12 ((m5 109 12) + (1 : Int32)) fun m6 =>
        jst 1 m6 115 ((9 : Int32) + (m6 109 12)) (m6 109 5) fun m7 =>
        some ((), m7)
      else
        some ((), m5)
  else
    some ((), m4)
theorem c_M_habit {G : jG} (hG : jFul G) {v1 : Int32} {m : jMem} {r : (Unit × jMem)} (h : f_M_habit v1 m = some r) : jCt G Y_M_habit [jr G 109, .int v1] m (jrv r) := by
  refine jCt.ov (ls := [(0, jr G 109), (1, .int v1)]) mi_M_habit (jAvR (jAvI jAvN)) (Nat.le_of_ble_eq_true rfl) ?_ ⟨rfl, rfl⟩
  unfold f_M_habit at h
  refine J.bipush (v := (9 : Int32)) d_M_habit_0 kb_9 ?_
  refine J.aload_n 0 d_M_habit_2 rfl rfl ?_
  refine J.getI hG d_M_habit_3 fl_M_191 ck_109_12 ?_
  refine J.iadd d_M_habit_6 ?_
  refine J.istore_n (lv := [(2, .int ((9 : Int32) + (m 109 12))), (0, jr G 109), (1, .int v1)]) d_M_habit_7 rfl (by decide) rfl ?_
  refine J.aload_n 1 d_M_habit_8 rfl rfl ?_
  refine J.getF (n := 113) hG d_M_habit_9 fl_M_19 ck_109_8 rfl ?_
  refine J.iload_n 0 d_M_habit_12 rfl rfl ?_
  refine J.nop (pc' := 13) rfl ?_
  refine J.iload_n 2 d_M_habit_13 rfl rfl ?_
  obtain ⟨m1, hm1, g, h⟩ := jst_some h
  refine J.zs hG d_M_habit_14 g hm1 ?_
  refine J.aload_n 1 d_M_habit_15 rfl rfl ?_
  refine J.getF (n := 115) hG d_M_habit_16 fl_M_26 ck_109_10 rfl ?_
  refine J.iload_n 0 d_M_habit_19 rfl rfl ?_
  refine J.aload_n 1 d_M_habit_20 rfl rfl ?_
  refine J.getI hG d_M_habit_21 fl_M_214 ck_109_5 ?_
  obtain ⟨m2, hm2, g, h⟩ := jst_some h
  refine J.is hG d_M_habit_24 g hm2 ?_
  refine J.nop (pc' := 25) rfl ?_
  refine J.aload_n 1 d_M_habit_25 rfl rfl ?_
  obtain ⟨u3, m4, zm4, h⟩ := jbd_some h
  refine J.cVv Y_M_expression (As := []) (rest := []) hG d_M_habit_26 mi_M_expression mv_M_expression lk_M_217 ⟨rfl, rfl, Nat.le_of_ble_eq_true rfl⟩ cq_109 cc_10 (c_M_expression hG zm4) rfl (Nat.le_trans jcN (Nat.le_of_ble_eq_true rfl)) ?_
  refine J.aload_n 1 d_M_habit_29 rfl rfl ?_
  refine J.getI hG d_M_habit_30 fl_M_178 ck_109_21 ?_
  refine J.if_eq 37 d_M_habit_33 rfl (fun c => ?_) (fun c => ?_)
  · rw [if_pos c] at h
    refine J.aload_n 1 d_M_habit_37 rfl rfl ?_
    refine J.getF (n := 114) hG d_M_habit_38 fl_M_23 ck_109_9 rfl ?_
    refine J.iload_n 0 d_M_habit_41 rfl rfl ?_
    refine J.iconst (v := (0 : Int32)) d_M_habit_42 ki_0 ?_
    obtain ⟨m5, hm5, g, h⟩ := jst_some h
    refine J.is hG d_M_habit_43 g hm5 ?_
    refine J.aload_n 1 d_M_habit_44 rfl rfl ?_
    refine J.getI hG d_M_habit_45 fl_M_151 ck_109_19 ?_
    refine J.if_ne 95 d_M_habit_48 rfl (fun c => ?_) (fun c => ?_)
    · rw [if_neg c] at h
      refine J.aload_n 1 d_M_habit_95 rfl rfl ?_
      refine J.getI hG d_M_habit_96 fl_M_178 ck_109_21 ?_
      refine J.if_eq 103 d_M_habit_99 rfl (fun c => ?_) (fun c => ?_)
      · rw [if_pos c] at h
        refine J.aload_n 1 d_M_habit_103 rfl rfl ?_
        refine J.dup d_M_habit_104 (jr_cat _ _) ?_
        refine J.getI hG d_M_habit_105 fl_M_191 ck_109_12 ?_
        refine J.iconst (v := (1 : Int32)) d_M_habit_108 ki_1 ?_
        refine J.iadd d_M_habit_109 ?_
        obtain ⟨m6, hm6, h⟩ := jpu_some h
        refine J.putI hG d_M_habit_110 fl_M_191 fp_10_12 ck_109_12 hm6 ?_
        refine J.aload_n 1 d_M_habit_113 rfl rfl ?_
        refine J.getF (n := 115) hG d_M_habit_114 fl_M_26 ck_109_10 rfl ?_
        refine J.nop (pc' := 117) rfl ?_
        refine J.bipush (v := (9 : Int32)) d_M_habit_117 kb_9 ?_
        refine J.aload_n 1 d_M_habit_119 rfl rfl ?_
        refine J.getI hG d_M_habit_120 fl_M_191 ck_109_12 ?_
        refine J.iadd d_M_habit_123 ?_
        refine J.aload_n 1 d_M_habit_124 rfl rfl ?_
        refine J.getI hG d_M_habit_125 fl_M_214 ck_109_5 ?_
        obtain ⟨m7, hm7, g, h⟩ := jst_some h
        refine J.is hG d_M_habit_128 g hm7 ?_
        cases h
        exact J.vret d_M_habit_129 rfl rfl
      · rw [if_neg c] at h
        cases h
        exact J.vret d_M_habit_102 rfl rfl
    · rw [if_pos c] at h
      refine J.nop (pc' := 51) rfl ?_
      refine J.aload_n 1 d_M_habit_51 rfl rfl ?_
      refine J.getI hG d_M_habit_52 fl_M_161 ck_109_20 ?_
      refine J.iconst (v := (3 : Int32)) d_M_habit_55 ki_3 ?_
      refine J.icmp_ne 95 d_M_habit_56 rfl (fun c => ?_) (fun c => ?_)
      · rw [if_neg c] at h
        refine J.aload_n 1 d_M_habit_95 rfl rfl ?_
        refine J.getI hG d_M_habit_96 fl_M_178 ck_109_21 ?_
        refine J.if_eq 103 d_M_habit_99 rfl (fun c => ?_) (fun c => ?_)
        · rw [if_pos c] at h
          refine J.aload_n 1 d_M_habit_103 rfl rfl ?_
          refine J.dup d_M_habit_104 (jr_cat _ _) ?_
          refine J.getI hG d_M_habit_105 fl_M_191 ck_109_12 ?_
          refine J.iconst (v := (1 : Int32)) d_M_habit_108 ki_1 ?_
          refine J.iadd d_M_habit_109 ?_
          obtain ⟨m8, hm8, h⟩ := jpu_some h
          refine J.putI hG d_M_habit_110 fl_M_191 fp_10_12 ck_109_12 hm8 ?_
          refine J.aload_n 1 d_M_habit_113 rfl rfl ?_
          refine J.getF (n := 115) hG d_M_habit_114 fl_M_26 ck_109_10 rfl ?_
          refine J.nop (pc' := 117) rfl ?_
          refine J.bipush (v := (9 : Int32)) d_M_habit_117 kb_9 ?_
          refine J.aload_n 1 d_M_habit_119 rfl rfl ?_
          refine J.getI hG d_M_habit_120 fl_M_191 ck_109_12 ?_
          refine J.iadd d_M_habit_123 ?_
          refine J.aload_n 1 d_M_habit_124 rfl rfl ?_
          refine J.getI hG d_M_habit_125 fl_M_214 ck_109_5 ?_
          obtain ⟨m9, hm9, g, h⟩ := jst_some h
          refine J.is hG d_M_habit_128 g hm9 ?_
          cases h
          exact J.vret d_M_habit_129 rfl rfl
        · rw [if_neg c] at h
          cases h
          exact J.vret d_M_habit_102 rfl rfl
      · rw [if_pos c] at h
        refine J.aload_n 1 d_M_habit_59 rfl rfl ?_
        obtain ⟨u10, m11, zm11, h⟩ := jbd_some h
        refine J.cVv Y_M_next (As := []) (rest := []) hG d_M_habit_60 mi_M_next mv_M_next lk_M_188 ⟨rfl, rfl, Nat.le_of_ble_eq_true rfl⟩ cq_109 cc_10 (c_M_next hG zm11) rfl (Nat.le_trans jcN (Nat.le_of_ble_eq_true rfl)) ?_
        refine J.aload_n 1 d_M_habit_63 rfl rfl ?_
        refine J.getF (n := 114) hG d_M_habit_64 fl_M_23 ck_109_9 rfl ?_
        refine J.nop (pc' := 67) rfl ?_
        refine J.iload_n 0 d_M_habit_67 rfl rfl ?_
        refine J.aload_n 1 d_M_habit_68 rfl rfl ?_
        refine J.iconst (v := (0 : Int32)) d_M_habit_69 ki_0 ?_
        obtain ⟨x12, m13, zm13, h⟩ := jbd_some h
        refine J.cVi Y_M_writers (As := [.int (0 : Int32)]) (rest := [.int ((9 : Int32) + (m 109 12)), jr G 114]) hG d_M_habit_70 mi_M_writers mv_M_writers lk_M_210 ⟨rfl, rfl, Nat.le_of_ble_eq_true rfl⟩ cq_109 cc_10 (c_M_writers hG zm13) rfl (Nat.le_trans (jcI (jcR jcN)) (Nat.le_of_ble_eq_true rfl)) ?_
        obtain ⟨m14, hm14, g, h⟩ := jst_some h
        refine J.is hG d_M_habit_73 g hm14 ?_
        refine J.aload_n 1 d_M_habit_74 rfl rfl ?_
        refine J.getI hG d_M_habit_75 fl_M_178 ck_109_21 ?_
        refine J.if_ne 95 d_M_habit_78 rfl (fun c => ?_) (fun c => ?_)
        · rw [if_neg c] at h
          refine J.aload_n 1 d_M_habit_95 rfl rfl ?_
          refine J.getI hG d_M_habit_96 fl_M_178 ck_109_21 ?_
          refine J.if_eq 103 d_M_habit_99 rfl (fun c => ?_) (fun c => ?_)
          · rw [if_pos c] at h
            refine J.aload_n 1 d_M_habit_103 rfl rfl ?_
            refine J.dup d_M_habit_104 (jr_cat _ _) ?_
            refine J.getI hG d_M_habit_105 fl_M_191 ck_109_12 ?_
            refine J.iconst (v := (1 : Int32)) d_M_habit_108 ki_1 ?_
            refine J.iadd d_M_habit_109 ?_
            obtain ⟨m15, hm15, h⟩ := jpu_some h
            refine J.putI hG d_M_habit_110 fl_M_191 fp_10_12 ck_109_12 hm15 ?_
            refine J.aload_n 1 d_M_habit_113 rfl rfl ?_
            refine J.getF (n := 115) hG d_M_habit_114 fl_M_26 ck_109_10 rfl ?_
            refine J.nop (pc' := 117) rfl ?_
            refine J.bipush (v := (9 : Int32)) d_M_habit_117 kb_9 ?_
            refine J.aload_n 1 d_M_habit_119 rfl rfl ?_
            refine J.getI hG d_M_habit_120 fl_M_191 ck_109_12 ?_
            refine J.iadd d_M_habit_123 ?_
            refine J.aload_n 1 d_M_habit_124 rfl rfl ?_
            refine J.getI hG d_M_habit_125 fl_M_214 ck_109_5 ?_
            obtain ⟨m16, hm16, g, h⟩ := jst_some h
            refine J.is hG d_M_habit_128 g hm16 ?_
            cases h
            exact J.vret d_M_habit_129 rfl rfl
          · rw [if_neg c] at h
            cases h
            exact J.vret d_M_habit_102 rfl rfl
        · rw [if_pos c] at h
          refine J.nop (pc' := 81) rfl ?_
          refine J.aload_n 1 d_M_habit_81 rfl rfl ?_
          refine J.getF (n := 114) hG d_M_habit_82 fl_M_23 ck_109_9 rfl ?_
          refine J.iload_n 0 d_M_habit_85 rfl rfl ?_
          obtain ⟨x17, ex17, g, h⟩ := jld_some h
          refine J.il hG d_M_habit_86 g ex17 ?_
          refine J.if_ne 95 d_M_habit_87 rfl (fun c => ?_) (fun c => ?_)
          · rw [if_neg c] at h
            refine J.aload_n 1 d_M_habit_95 rfl rfl ?_
            refine J.getI hG d_M_habit_96 fl_M_178 ck_109_21 ?_
            refine J.if_eq 103 d_M_habit_99 rfl (fun c => ?_) (fun c => ?_)
            · rw [if_pos c] at h
              refine J.aload_n 1 d_M_habit_103 rfl rfl ?_
              refine J.dup d_M_habit_104 (jr_cat _ _) ?_
              refine J.getI hG d_M_habit_105 fl_M_191 ck_109_12 ?_
              refine J.iconst (v := (1 : Int32)) d_M_habit_108 ki_1 ?_
              refine J.iadd d_M_habit_109 ?_
              obtain ⟨m18, hm18, h⟩ := jpu_some h
              refine J.putI hG d_M_habit_110 fl_M_191 fp_10_12 ck_109_12 hm18 ?_
              refine J.aload_n 1 d_M_habit_113 rfl rfl ?_
              refine J.getF (n := 115) hG d_M_habit_114 fl_M_26 ck_109_10 rfl ?_
              refine J.nop (pc' := 117) rfl ?_
              refine J.bipush (v := (9 : Int32)) d_M_habit_117 kb_9 ?_
              refine J.aload_n 1 d_M_habit_119 rfl rfl ?_
              refine J.getI hG d_M_habit_120 fl_M_191 ck_109_12 ?_
              refine J.iadd d_M_habit_123 ?_
              refine J.aload_n 1 d_M_habit_124 rfl rfl ?_
              refine J.getI hG d_M_habit_125 fl_M_214 ck_109_5 ?_
              obtain ⟨m19, hm19, g, h⟩ := jst_some h
              refine J.is hG d_M_habit_128 g hm19 ?_
              cases h
              exact J.vret d_M_habit_129 rfl rfl
            · rw [if_neg c] at h
              cases h
              exact J.vret d_M_habit_102 rfl rfl
          · rw [if_pos c] at h
            refine J.aload_n 1 d_M_habit_90 rfl rfl ?_
            refine J.iconst (v := (1 : Int32)) d_M_habit_91 ki_1 ?_
            obtain ⟨u20, m21, zm21, h⟩ := jbd_some h
            refine J.cVv Y_M_wrong (As := [.int (1 : Int32)]) (rest := []) hG d_M_habit_92 mi_M_wrong mv_M_wrong lk_M_184 ⟨rfl, rfl, Nat.le_of_ble_eq_true rfl⟩ cq_109 cc_10 (c_M_wrong hG zm21) rfl (Nat.le_trans jcN (Nat.le_of_ble_eq_true rfl)) ?_
            refine J.nop (pc' := 95) rfl ?_
            refine J.aload_n 1 d_M_habit_95 rfl rfl ?_
            refine J.getI hG d_M_habit_96 fl_M_178 ck_109_21 ?_
            refine J.if_eq 103 d_M_habit_99 rfl (fun c => ?_) (fun c => ?_)
            · rw [if_pos c] at h
              refine J.aload_n 1 d_M_habit_103 rfl rfl ?_
              refine J.dup d_M_habit_104 (jr_cat _ _) ?_
              refine J.getI hG d_M_habit_105 fl_M_191 ck_109_12 ?_
              refine J.iconst (v := (1 : Int32)) d_M_habit_108 ki_1 ?_
              refine J.iadd d_M_habit_109 ?_
              obtain ⟨m22, hm22, h⟩ := jpu_some h
              refine J.putI hG d_M_habit_110 fl_M_191 fp_10_12 ck_109_12 hm22 ?_
              refine J.aload_n 1 d_M_habit_113 rfl rfl ?_
              refine J.getF (n := 115) hG d_M_habit_114 fl_M_26 ck_109_10 rfl ?_
              refine J.nop (pc' := 117) rfl ?_
              refine J.bipush (v := (9 : Int32)) d_M_habit_117 kb_9 ?_
              refine J.aload_n 1 d_M_habit_119 rfl rfl ?_
              refine J.getI hG d_M_habit_120 fl_M_191 ck_109_12 ?_
              refine J.iadd d_M_habit_123 ?_
              refine J.aload_n 1 d_M_habit_124 rfl rfl ?_
              refine J.getI hG d_M_habit_125 fl_M_214 ck_109_5 ?_
              obtain ⟨m23, hm23, g, h⟩ := jst_some h
              refine J.is hG d_M_habit_128 g hm23 ?_
              cases h
              exact J.vret d_M_habit_129 rfl rfl
            · rw [if_neg c] at h
              cases h
              exact J.vret d_M_habit_102 rfl rfl
  · rw [if_neg c] at h
    cases h
    exact J.vret d_M_habit_36 rfl rfl

def lp_M_reads_114 (v1 : Int32) (v2 : Int32) (k145 : jMem → Option (Unit × jMem)) : Nat → Int32 → jMem → Option (Unit × jMem)
  | 0, _, _ => none
  | n + 1, v3, m =>
    if (6 : Int32) ≤ v3 then
      k145 m
    else
      if ((v2 >>> (v3 &&& 31)) &&& (1 : Int32)) = (1 : Int32) then
        jst 1 m 116 ((6 : Int32) + v3) v1 fun m10 =>
        lp_M_reads_114 v1 v2 k145 n (v3 + (1 : Int32)) m10
      else
        lp_M_reads_114 v1 v2 k145 n (v3 + (1 : Int32)) m
def f_M_reads (m : jMem) : Option (Unit × jMem) :=
  if (m 109 19) = 0 then
    if (m 109 20) < (4 : Int32) then
      jbd (f_M_wrong (1 : Int32) m) fun u3 m4 =>
      some ((), m4)
    else
      if (m 109 20) ≤ (8 : Int32) then
        jbd (f_M_next m) fun u5 m6 =>
        jbd (f_M_writers (m6 109 14) m6) fun x7 m8 =>
        if (m8 109 21) = 0 then
          if x7 = 0 then
            jbd (f_M_isSign (59 : Int32) m8) fun x12 m13 =>
            if x12 = 0 then
              jbd (f_M_wrong (1 : Int32) m13) fun u20 m21 =>
              if (m21 109 21) = 0 then
                jpu m21 109 14 ((m21 109 14) ||| (63 : Int32)) fun m22 =>
                lp_M_reads_114 ((m 109 20) - (4 : Int32)) (63 : Int32) (fun m23 =>
                  some ((), m23)) 5000 (0 : Int32) m22
              else
                some ((), m21)
            else
              if (m13 109 14) = 0 then
                if (m13 109 21) = 0 then
                  jpu m13 109 14 ((m13 109 14) ||| (63 : Int32)) fun m14 =>
                  lp_M_reads_114 ((m 109 20) - (4 : Int32)) (63 : Int32) (fun m15 =>
                    some ((), m15)) 5000 (0 : Int32) m14
                else
                  some ((), m13)
              else
                jbd (f_M_wrong (3 : Int32) m13) fun u16 m17 =>
                if (m17 109 21) = 0 then
                  jpu m17 109 14 ((m17 109 14) ||| (63 : Int32)) fun m18 =>
                  lp_M_reads_114 ((m 109 20) - (4 : Int32)) (63 : Int32) (fun m19 =>
                    some ((), m19)) 5000 (0 : Int32) m18
                else
                  some ((), m17)
          else
            if (m8 109 21) = 0 then
              jpu m8 109 14 ((m8 109 14) ||| x7) fun m9 =>
              lp_M_reads_114 ((m 109 20) - (4 : Int32)) x7 (fun m11 =>
                some ((), m11)) 5000 (0 : Int32) m9
            else
              some ((), m8)
        else
          some ((), m8)
      else
        jbd (f_M_wrong (1 : Int32) m) fun u24 m25 =>
        some ((), m25)
  else
    jbd (f_M_wrong (1 : Int32) m) fun u1 m2 =>
    some ((), m2)
theorem jlp_M_reads_114 {G : jG} (hG : jFul G) (v1 : Int32) (v2 : Int32) (k145 : jMem → Option (Unit × jMem))
    (hk145 : ∀ (m : jMem) (r : (Unit × jMem)), k145 m = some r → J G Y_M_reads 145 [] [] m (jrv r)) : ∀ (n : Nat) (v3 : Int32) (m : jMem) (r : (Unit × jMem)), lp_M_reads_114 v1 v2 k145 n v3 m = some r → J G Y_M_reads 114 [(0, jr G 109), (1, .int v1), (2, .int v2), (3, .int v3)] [] m (jrv r) := by
  intro n
  induction n with
  | zero => intro v3 m r h; unfold lp_M_reads_114 at h; cases h
  | succ n ih =>
    intro v3 m r h
    unfold lp_M_reads_114 at h
    refine J.iload_n 3 d_M_reads_114 rfl rfl ?_
    refine J.bipush (v := (6 : Int32)) d_M_reads_115 kb_6 ?_
    refine J.icmp_ge 145 d_M_reads_117 rfl (fun c => ?_) (fun c => ?_)
    · rw [if_pos c] at h
      exact J.sub (ls' := []) [] rfl (hk145  m _ h)
    · rw [if_neg c] at h
      refine J.iload_n 2 d_M_reads_120 rfl rfl ?_
      refine J.iload_n 3 d_M_reads_121 rfl rfl ?_
      refine J.ishr d_M_reads_122 ?_
      refine J.iconst (v := (1 : Int32)) d_M_reads_123 ki_1 ?_
      refine J.iand d_M_reads_124 ?_
      refine J.nop (pc' := 125) rfl ?_
      refine J.iconst (v := (1 : Int32)) d_M_reads_125 ki_1 ?_
      refine J.icmp_ne 139 d_M_reads_126 rfl (fun c => ?_) (fun c => ?_)
      · rw [if_neg c] at h
        refine J.iinc 3 (v := (1 : Int32)) (lv := [(3, .int (v3 + (1 : Int32))), (0, jr G 109), (1, .int v1), (2, .int v2)]) d_M_reads_139 rfl ki_1 (by decide) rfl ?_
        refine J.goto 114 d_M_reads_142 rfl ?_
        exact J.sub (ls' := [(0, jr G 109), (1, .int v1), (2, .int v2), (3, .int (v3 + (1 : Int32)))]) [1, 2, 3, 0] rfl (ih (v3 + (1 : Int32)) m _ h)
      · rw [if_pos c] at h
        refine J.aload_n 0 d_M_reads_129 rfl rfl ?_
        refine J.getF (n := 116) hG d_M_reads_130 fl_M_29 ck_109_13 rfl ?_
        refine J.bipush (v := (6 : Int32)) d_M_reads_133 kb_6 ?_
        refine J.iload_n 3 d_M_reads_135 rfl rfl ?_
        refine J.iadd d_M_reads_136 ?_
        refine J.iload_n 1 d_M_reads_137 rfl rfl ?_
        refine J.nop (pc' := 138) rfl ?_
        obtain ⟨m10, hm10, g, h⟩ := jst_some h
        refine J.is hG d_M_reads_138 g hm10 ?_
        refine J.iinc 3 (v := (1 : Int32)) (lv := [(3, .int (v3 + (1 : Int32))), (0, jr G 109), (1, .int v1), (2, .int v2)]) d_M_reads_139 rfl ki_1 (by decide) rfl ?_
        refine J.goto 114 d_M_reads_142 rfl ?_
        exact J.sub (ls' := [(0, jr G 109), (1, .int v1), (2, .int v2), (3, .int (v3 + (1 : Int32)))]) [1, 2, 3, 0] rfl (ih (v3 + (1 : Int32)) m10 _ h)
theorem c_M_reads {G : jG} (hG : jFul G) {m : jMem} {r : (Unit × jMem)} (h : f_M_reads m = some r) : jCt G Y_M_reads [jr G 109] m (jrv r) := by
  refine jCt.ov (ls := [(0, jr G 109)]) mi_M_reads (jAvR jAvN) (Nat.le_of_ble_eq_true rfl) ?_ ⟨rfl, rfl⟩
  unfold f_M_reads at h
  refine J.aload_n 0 d_M_reads_0 rfl rfl ?_
  refine J.getI hG d_M_reads_1 fl_M_151 ck_109_19 ?_
  refine J.if_ne 24 d_M_reads_4 rfl (fun c => ?_) (fun c => ?_)
  · rw [if_neg c] at h
    refine J.aload_n 0 d_M_reads_24 rfl rfl ?_
    refine J.iconst (v := (1 : Int32)) d_M_reads_25 ki_1 ?_
    obtain ⟨u1, m2, zm2, h⟩ := jbd_some h
    refine J.cVv Y_M_wrong (As := [.int (1 : Int32)]) (rest := []) hG d_M_reads_26 mi_M_wrong mv_M_wrong lk_M_184 ⟨rfl, rfl, Nat.le_of_ble_eq_true rfl⟩ cq_109 cc_10 (c_M_wrong hG zm2) rfl (Nat.le_trans jcN (Nat.le_of_ble_eq_true rfl)) ?_
    cases h
    exact J.vret d_M_reads_29 rfl rfl
  · rw [if_pos c] at h
    refine J.aload_n 0 d_M_reads_7 rfl rfl ?_
    refine J.getI hG d_M_reads_8 fl_M_161 ck_109_20 ?_
    refine J.iconst (v := (4 : Int32)) d_M_reads_11 ki_4 ?_
    refine J.icmp_lt 24 d_M_reads_12 rfl (fun c => ?_) (fun c => ?_)
    · rw [if_pos c] at h
      refine J.aload_n 0 d_M_reads_24 rfl rfl ?_
      refine J.iconst (v := (1 : Int32)) d_M_reads_25 ki_1 ?_
      obtain ⟨u3, m4, zm4, h⟩ := jbd_some h
      refine J.cVv Y_M_wrong (As := [.int (1 : Int32)]) (rest := []) hG d_M_reads_26 mi_M_wrong mv_M_wrong lk_M_184 ⟨rfl, rfl, Nat.le_of_ble_eq_true rfl⟩ cq_109 cc_10 (c_M_wrong hG zm4) rfl (Nat.le_trans jcN (Nat.le_of_ble_eq_true rfl)) ?_
      cases h
      exact J.vret d_M_reads_29 rfl rfl
    · rw [if_neg c] at h
      refine J.aload_n 0 d_M_reads_15 rfl rfl ?_
      refine J.nop (pc' := 16) rfl ?_
      refine J.getI hG d_M_reads_16 fl_M_161 ck_109_20 ?_
      refine J.bipush (v := (8 : Int32)) d_M_reads_19 kb_8 ?_
      refine J.icmp_le 30 d_M_reads_21 rfl (fun c => ?_) (fun c => ?_)
      · rw [if_pos c] at h
        refine J.aload_n 0 d_M_reads_30 rfl rfl ?_
        refine J.getI hG d_M_reads_31 fl_M_161 ck_109_20 ?_
        refine J.iconst (v := (4 : Int32)) d_M_reads_34 ki_4 ?_
        refine J.isub d_M_reads_35 ?_
        refine J.istore_n (lv := [(1, .int ((m 109 20) - (4 : Int32))), (0, jr G 109)]) d_M_reads_36 rfl (by decide) rfl ?_
        refine J.aload_n 1 d_M_reads_37 rfl rfl ?_
        obtain ⟨u5, m6, zm6, h⟩ := jbd_some h
        refine J.cVv Y_M_next (As := []) (rest := []) hG d_M_reads_38 mi_M_next mv_M_next lk_M_188 ⟨rfl, rfl, Nat.le_of_ble_eq_true rfl⟩ cq_109 cc_10 (c_M_next hG zm6) rfl (Nat.le_trans jcN (Nat.le_of_ble_eq_true rfl)) ?_
        refine J.aload_n 1 d_M_reads_41 rfl rfl ?_
        refine J.nop (pc' := 42) rfl ?_
        refine J.aload_n 1 d_M_reads_42 rfl rfl ?_
        refine J.getI hG d_M_reads_43 fl_M_207 ck_109_14 ?_
        obtain ⟨x7, m8, zm8, h⟩ := jbd_some h
        refine J.cVi Y_M_writers (As := [.int (m6 109 14)]) (rest := []) hG d_M_reads_46 mi_M_writers mv_M_writers lk_M_210 ⟨rfl, rfl, Nat.le_of_ble_eq_true rfl⟩ cq_109 cc_10 (c_M_writers hG zm8) rfl (Nat.le_trans jcN (Nat.le_of_ble_eq_true rfl)) ?_
        refine J.istore_n (lv := [(2, .int x7), (1, .int ((m 109 20) - (4 : Int32))), (0, jr G 109)]) d_M_reads_49 rfl (by decide) rfl ?_
        refine J.aload_n 2 d_M_reads_50 rfl rfl ?_
        refine J.getI hG d_M_reads_51 fl_M_178 ck_109_21 ?_
        refine J.if_eq 58 d_M_reads_54 rfl (fun c => ?_) (fun c => ?_)
        · rw [if_pos c] at h
          refine J.iload_n 0 d_M_reads_58 rfl rfl ?_
          refine J.if_ne 94 d_M_reads_59 rfl (fun c => ?_) (fun c => ?_)
          · rw [if_neg c] at h
            refine J.aload_n 2 d_M_reads_94 rfl rfl ?_
            refine J.getI hG d_M_reads_95 fl_M_178 ck_109_21 ?_
            refine J.if_eq 102 d_M_reads_98 rfl (fun c => ?_) (fun c => ?_)
            · rw [if_pos c] at h
              refine J.aload_n 2 d_M_reads_102 rfl rfl ?_
              refine J.dup d_M_reads_103 (jr_cat _ _) ?_
              refine J.getI hG d_M_reads_104 fl_M_207 ck_109_14 ?_
              refine J.iload_n 0 d_M_reads_107 rfl rfl ?_
              refine J.ior d_M_reads_108 ?_
              obtain ⟨m9, hm9, h⟩ := jpu_some h
              refine J.putI hG d_M_reads_109 fl_M_207 fp_10_14 ck_109_14 hm9 ?_
              refine J.iconst (v := (0 : Int32)) d_M_reads_112 ki_0 ?_
              refine J.istore_n (lv := [(3, .int (0 : Int32)), (2, .int x7), (1, .int ((m 109 20) - (4 : Int32))), (0, jr G 109)]) d_M_reads_113 rfl (by decide) rfl ?_
              refine J.sub (ls' := [(0, jr G 109), (1, .int ((m 109 20) - (4 : Int32))), (2, .int x7), (3, .int (0 : Int32))]) [3, 2, 1, 0] rfl ?_
              refine jlp_M_reads_114 hG ((m 109 20) - (4 : Int32)) x7 _ ?_ _ (0 : Int32) m9 _ h
              intro m11 r h
              cases h
              exact J.vret d_M_reads_145 rfl rfl
            · rw [if_neg c] at h
              cases h
              exact J.vret d_M_reads_101 rfl rfl
          · rw [if_pos c] at h
            refine J.aload_n 2 d_M_reads_62 rfl rfl ?_
            refine J.bipush (v := (59 : Int32)) d_M_reads_63 kb_59 ?_
            obtain ⟨x12, m13, zm13, h⟩ := jbd_some h
            refine J.cVi Y_M_isSign (As := [.int (59 : Int32)]) (rest := []) hG d_M_reads_65 mi_M_isSign mv_M_isSign lk_M_201 ⟨rfl, rfl, Nat.le_of_ble_eq_true rfl⟩ cq_109 cc_10 (c_M_isSign hG zm13) rfl (Nat.le_trans jcN (Nat.le_of_ble_eq_true rfl)) ?_
            refine J.if_ne 79 d_M_reads_68 rfl (fun c => ?_) (fun c => ?_)
            · rw [if_neg c] at h
              refine J.aload_n 2 d_M_reads_79 rfl rfl ?_
              refine J.getI hG d_M_reads_80 fl_M_207 ck_109_14 ?_
              refine J.if_eq 91 d_M_reads_83 rfl (fun c => ?_) (fun c => ?_)
              · rw [if_pos c] at h
                refine J.bipush (v := (63 : Int32)) d_M_reads_91 kb_63 ?_
                refine J.istore_n (lv := [(2, .int (63 : Int32)), (1, .int ((m 109 20) - (4 : Int32))), (0, jr G 109)]) d_M_reads_93 rfl (by decide) rfl ?_
                refine J.aload_n 2 d_M_reads_94 rfl rfl ?_
                refine J.getI hG d_M_reads_95 fl_M_178 ck_109_21 ?_
                refine J.if_eq 102 d_M_reads_98 rfl (fun c => ?_) (fun c => ?_)
                · rw [if_pos c] at h
                  refine J.aload_n 2 d_M_reads_102 rfl rfl ?_
                  refine J.dup d_M_reads_103 (jr_cat _ _) ?_
                  refine J.getI hG d_M_reads_104 fl_M_207 ck_109_14 ?_
                  refine J.iload_n 0 d_M_reads_107 rfl rfl ?_
                  refine J.ior d_M_reads_108 ?_
                  obtain ⟨m14, hm14, h⟩ := jpu_some h
                  refine J.putI hG d_M_reads_109 fl_M_207 fp_10_14 ck_109_14 hm14 ?_
                  refine J.iconst (v := (0 : Int32)) d_M_reads_112 ki_0 ?_
                  refine J.istore_n (lv := [(3, .int (0 : Int32)), (2, .int (63 : Int32)), (1, .int ((m 109 20) - (4 : Int32))), (0, jr G 109)]) d_M_reads_113 rfl (by decide) rfl ?_
                  refine J.sub (ls' := [(0, jr G 109), (1, .int ((m 109 20) - (4 : Int32))), (2, .int (63 : Int32)), (3, .int (0 : Int32))]) [3, 2, 1, 0] rfl ?_
                  refine jlp_M_reads_114 hG ((m 109 20) - (4 : Int32)) (63 : Int32) _ ?_ _ (0 : Int32) m14 _ h
                  intro m15 r h
                  cases h
                  exact J.vret d_M_reads_145 rfl rfl
                · rw [if_neg c] at h
                  cases h
                  exact J.vret d_M_reads_101 rfl rfl
              · rw [if_neg c] at h
                refine J.aload_n 2 d_M_reads_86 rfl rfl ?_
                refine J.iconst (v := (3 : Int32)) d_M_reads_87 ki_3 ?_
                obtain ⟨u16, m17, zm17, h⟩ := jbd_some h
                refine J.cVv Y_M_wrong (As := [.int (3 : Int32)]) (rest := []) hG d_M_reads_88 mi_M_wrong mv_M_wrong lk_M_184 ⟨rfl, rfl, Nat.le_of_ble_eq_true rfl⟩ cq_109 cc_10 (c_M_wrong hG zm17) rfl (Nat.le_trans jcN (Nat.le_of_ble_eq_true rfl)) ?_
                refine J.bipush (v := (63 : Int32)) d_M_reads_91 kb_63 ?_
                refine J.istore_n (lv := [(2, .int (63 : Int32)), (1, .int ((m 109 20) - (4 : Int32))), (0, jr G 109)]) d_M_reads_93 rfl (by decide) rfl ?_
                refine J.nop (pc' := 94) rfl ?_
                refine J.aload_n 2 d_M_reads_94 rfl rfl ?_
                refine J.getI hG d_M_reads_95 fl_M_178 ck_109_21 ?_
                refine J.if_eq 102 d_M_reads_98 rfl (fun c => ?_) (fun c => ?_)
                · rw [if_pos c] at h
                  refine J.aload_n 2 d_M_reads_102 rfl rfl ?_
                  refine J.dup d_M_reads_103 (jr_cat _ _) ?_
                  refine J.getI hG d_M_reads_104 fl_M_207 ck_109_14 ?_
                  refine J.iload_n 0 d_M_reads_107 rfl rfl ?_
                  refine J.ior d_M_reads_108 ?_
                  obtain ⟨m18, hm18, h⟩ := jpu_some h
                  refine J.putI hG d_M_reads_109 fl_M_207 fp_10_14 ck_109_14 hm18 ?_
                  refine J.iconst (v := (0 : Int32)) d_M_reads_112 ki_0 ?_
                  refine J.istore_n (lv := [(3, .int (0 : Int32)), (2, .int (63 : Int32)), (1, .int ((m 109 20) - (4 : Int32))), (0, jr G 109)]) d_M_reads_113 rfl (by decide) rfl ?_
                  refine J.sub (ls' := [(0, jr G 109), (1, .int ((m 109 20) - (4 : Int32))), (2, .int (63 : Int32)), (3, .int (0 : Int32))]) [3, 2, 1, 0] rfl ?_
                  refine jlp_M_reads_114 hG ((m 109 20) - (4 : Int32)) (63 : Int32) _ ?_ _ (0 : Int32) m18 _ h
                  intro m19 r h
                  cases h
                  exact J.vret d_M_reads_145 rfl rfl
                · rw [if_neg c] at h
                  cases h
                  exact J.vret d_M_reads_101 rfl rfl
            · rw [if_pos c] at h
              refine J.aload_n 2 d_M_reads_71 rfl rfl ?_
              refine J.iconst (v := (1 : Int32)) d_M_reads_72 ki_1 ?_
              refine J.nop (pc' := 73) rfl ?_
              obtain ⟨u20, m21, zm21, h⟩ := jbd_some h
              refine J.cVv Y_M_wrong (As := [.int (1 : Int32)]) (rest := []) hG d_M_reads_73 mi_M_wrong mv_M_wrong lk_M_184 ⟨rfl, rfl, Nat.le_of_ble_eq_true rfl⟩ cq_109 cc_10 (c_M_wrong hG zm21) rfl (Nat.le_trans jcN (Nat.le_of_ble_eq_true rfl)) ?_
              refine J.goto 91 d_M_reads_76 rfl ?_
              refine J.bipush (v := (63 : Int32)) d_M_reads_91 kb_63 ?_
              refine J.istore_n (lv := [(2, .int (63 : Int32)), (1, .int ((m 109 20) - (4 : Int32))), (0, jr G 109)]) d_M_reads_93 rfl (by decide) rfl ?_
              refine J.aload_n 2 d_M_reads_94 rfl rfl ?_
              refine J.getI hG d_M_reads_95 fl_M_178 ck_109_21 ?_
              refine J.if_eq 102 d_M_reads_98 rfl (fun c => ?_) (fun c => ?_)
              · rw [if_pos c] at h
                refine J.aload_n 2 d_M_reads_102 rfl rfl ?_
                refine J.dup d_M_reads_103 (jr_cat _ _) ?_
                refine J.getI hG d_M_reads_104 fl_M_207 ck_109_14 ?_
                refine J.iload_n 0 d_M_reads_107 rfl rfl ?_
                refine J.ior d_M_reads_108 ?_
                obtain ⟨m22, hm22, h⟩ := jpu_some h
                refine J.putI hG d_M_reads_109 fl_M_207 fp_10_14 ck_109_14 hm22 ?_
                refine J.iconst (v := (0 : Int32)) d_M_reads_112 ki_0 ?_
                refine J.istore_n (lv := [(3, .int (0 : Int32)), (2, .int (63 : Int32)), (1, .int ((m 109 20) - (4 : Int32))), (0, jr G 109)]) d_M_reads_113 rfl (by decide) rfl ?_
                refine J.sub (ls' := [(0, jr G 109), (1, .int ((m 109 20) - (4 : Int32))), (2, .int (63 : Int32)), (3, .int (0 : Int32))]) [3, 2, 1, 0] rfl ?_
                refine jlp_M_reads_114 hG ((m 109 20) - (4 : Int32)) (63 : Int32) _ ?_ _ (0 : Int32) m22 _ h
                intro m23 r h
                cases h
                exact J.vret d_M_reads_145 rfl rfl
              · rw [if_neg c] at h
                cases h
                exact J.vret d_M_reads_101 rfl rfl
        · rw [if_neg c] at h
          cases h
          exact J.vret d_M_reads_57 rfl rfl
      · rw [if_neg c] at h
        refine J.aload_n 0 d_M_reads_24 rfl rfl ?_
        refine J.iconst (v := (1 : Int32)) d_M_reads_25 ki_1 ?_
        obtain ⟨u24, m25, zm25, h⟩ := jbd_some h
        refine J.cVv Y_M_wrong (As := [.int (1 : Int32)]) (rest := []) hG d_M_reads_26 mi_M_wrong mv_M_wrong lk_M_184 ⟨rfl, rfl, Nat.le_of_ble_eq_true rfl⟩ cq_109 cc_10 (c_M_wrong hG zm25) rfl (Nat.le_trans jcN (Nat.le_of_ble_eq_true rfl)) ?_
        cases h
        exact J.vret d_M_reads_29 rfl rfl

def f_M_line (m : jMem) : Option (Unit × jMem) :=
  if (m 109 19) = 0 then
    if (m 109 20) ≤ (2 : Int32) then
      if (m 109 20) = 0 then
        jbd (f_M_next m) fun u3 m4 =>
        if (m 109 20) = 0 then
          jbd (f_M_reads m4) fun u23 m24 =>
          if (m24 109 21) = 0 then
            jbd (f_M_isSign (59 : Int32) m24) fun x25 m26 =>
            if x25 = 0 then
              jbd (f_M_wrong (1 : Int32) m26) fun u30 m31 =>
              some ((), m31)
            else
              jbd (f_M_next m26) fun u27 m28 =>
              jpu m28 109 15 ((m28 109 15) + (1 : Int32)) fun m29 =>
              some ((), m29)
          else
            some ((), m24)
        else
          if (m 109 20) = (2 : Int32) then
            jbd (f_M_habit (1 : Int32) m4) fun u14 m15 =>
            if (m15 109 21) = 0 then
              jbd (f_M_isSign (59 : Int32) m15) fun x16 m17 =>
              if x16 = 0 then
                jbd (f_M_wrong (1 : Int32) m17) fun u21 m22 =>
                some ((), m22)
              else
                jbd (f_M_next m17) fun u18 m19 =>
                jpu m19 109 15 ((m19 109 15) + (1 : Int32)) fun m20 =>
                some ((), m20)
            else
              some ((), m15)
          else
            jbd (f_M_habit (0 : Int32) m4) fun u5 m6 =>
            if (m6 109 21) = 0 then
              jbd (f_M_isSign (59 : Int32) m6) fun x7 m8 =>
              if x7 = 0 then
                jbd (f_M_wrong (1 : Int32) m8) fun u12 m13 =>
                some ((), m13)
              else
                jbd (f_M_next m8) fun u9 m10 =>
                jpu m10 109 15 ((m10 109 15) + (1 : Int32)) fun m11 =>
                some ((), m11)
            else
              some ((), m6)
      else
        if (m 109 12) = (8 : Int32) then
          jbd (f_M_wrong (2 : Int32) m) fun u61 m62 =>
          some ((), m62)
        else
          jbd (f_M_next m) fun u32 m33 =>
          if (m 109 20) = 0 then
            jbd (f_M_reads m33) fun u52 m53 =>
            if (m53 109 21) = 0 then
              jbd (f_M_isSign (59 : Int32) m53) fun x54 m55 =>
              if x54 = 0 then
                jbd (f_M_wrong (1 : Int32) m55) fun u59 m60 =>
                some ((), m60)
              else
                jbd (f_M_next m55) fun u56 m57 =>
                jpu m57 109 15 ((m57 109 15) + (1 : Int32)) fun m58 =>
                some ((), m58)
            else
              some ((), m53)
          else
            if (m 109 20) = (2 : Int32) then
              jbd (f_M_habit (1 : Int32) m33) fun u43 m44 =>
              if (m44 109 21) = 0 then
                jbd (f_M_isSign (59 : Int32) m44) fun x45 m46 =>
                if x45 = 0 then
                  jbd (f_M_wrong (1 : Int32) m46) fun u50 m51 =>
                  some ((), m51)
                else
                  jbd (f_M_next m46) fun u47 m48 =>
                  jpu m48 109 15 ((m48 109 15) + (1 : Int32)) fun m49 =>
                  some ((), m49)
              else
                some ((), m44)
            else
              jbd (f_M_habit (0 : Int32) m33) fun u34 m35 =>
              if (m35 109 21) = 0 then
                jbd (f_M_isSign (59 : Int32) m35) fun x36 m37 =>
                if x36 = 0 then
                  jbd (f_M_wrong (1 : Int32) m37) fun u41 m42 =>
                  some ((), m42)
                else
                  jbd (f_M_next m37) fun u38 m39 =>
                  jpu m39 109 15 ((m39 109 15) + (1 : Int32)) fun m40 =>
                  some ((), m40)
              else
                some ((), m35)
    else
      jbd (f_M_wrong (1 : Int32) m) fun u63 m64 =>
      some ((), m64)
  else
    jbd (f_M_wrong (1 : Int32) m) fun u1 m2 =>
    some ((), m2)
theorem c_M_line {G : jG} (hG : jFul G) {m : jMem} {r : (Unit × jMem)} (h : f_M_line m = some r) : jCt G Y_M_line [jr G 109] m (jrv r) := by
  refine jCt.ov (ls := [(0, jr G 109)]) mi_M_line (jAvR jAvN) (Nat.le_of_ble_eq_true rfl) ?_ ⟨rfl, rfl⟩
  unfold f_M_line at h
  refine J.aload_n 0 d_M_line_0 rfl rfl ?_
  refine J.getI hG d_M_line_1 fl_M_151 ck_109_19 ?_
  refine J.if_ne 15 d_M_line_4 rfl (fun c => ?_) (fun c => ?_)
  · rw [if_neg c] at h
    refine J.aload_n 0 d_M_line_15 rfl rfl ?_
    refine J.iconst (v := (1 : Int32)) d_M_line_16 ki_1 ?_
    obtain ⟨u1, m2, zm2, h⟩ := jbd_some h
    refine J.cVv Y_M_wrong (As := [.int (1 : Int32)]) (rest := []) hG d_M_line_17 mi_M_wrong mv_M_wrong lk_M_184 ⟨rfl, rfl, Nat.le_of_ble_eq_true rfl⟩ cq_109 cc_10 (c_M_wrong hG zm2) rfl (Nat.le_trans jcN (Nat.le_of_ble_eq_true rfl)) ?_
    cases h
    exact J.vret d_M_line_20 rfl rfl
  · rw [if_pos c] at h
    refine J.aload_n 0 d_M_line_7 rfl rfl ?_
    refine J.getI hG d_M_line_8 fl_M_161 ck_109_20 ?_
    refine J.iconst (v := (2 : Int32)) d_M_line_11 ki_2 ?_
    refine J.icmp_le 21 d_M_line_12 rfl (fun c => ?_) (fun c => ?_)
    · rw [if_pos c] at h
      refine J.aload_n 0 d_M_line_21 rfl rfl ?_
      refine J.getI hG d_M_line_22 fl_M_161 ck_109_20 ?_
      refine J.istore_n (lv := [(1, .int (m 109 20)), (0, jr G 109)]) d_M_line_25 rfl (by decide) rfl ?_
      refine J.iload_n 0 d_M_line_26 rfl rfl ?_
      refine J.if_eq 45 d_M_line_27 rfl (fun c => ?_) (fun c => ?_)
      · rw [if_pos c] at h
        refine J.aload_n 1 d_M_line_45 rfl rfl ?_
        obtain ⟨u3, m4, zm4, h⟩ := jbd_some h
        refine J.cVv Y_M_next (As := []) (rest := []) hG d_M_line_46 mi_M_next mv_M_next lk_M_188 ⟨rfl, rfl, Nat.le_of_ble_eq_true rfl⟩ cq_109 cc_10 (c_M_next hG zm4) rfl (Nat.le_trans jcN (Nat.le_of_ble_eq_true rfl)) ?_
        refine J.iload_n 0 d_M_line_49 rfl rfl ?_
        refine J.if_ne 60 d_M_line_50 rfl (fun c => ?_) (fun c => ?_)
        · rw [if_neg c] at h
          refine J.aload_n 1 d_M_line_60 rfl rfl ?_
          refine J.iload_n 0 d_M_line_61 rfl rfl ?_
          refine J.iconst (v := (2 : Int32)) d_M_line_62 ki_2 ?_
          refine J.icmp_ne 70 d_M_line_63 rfl (fun c => ?_) (fun c => ?_)
          · rw [if_neg c] at h
            refine J.iconst (v := (0 : Int32)) d_M_line_70 ki_0 ?_
            obtain ⟨u5, m6, zm6, h⟩ := jbd_some h
            refine J.cVv Y_M_habit (As := [.int (0 : Int32)]) (rest := []) hG d_M_line_71 mi_M_habit mv_M_habit lk_M_197 ⟨rfl, rfl, Nat.le_of_ble_eq_true rfl⟩ cq_109 cc_10 (c_M_habit hG zm6) rfl (Nat.le_trans jcN (Nat.le_of_ble_eq_true rfl)) ?_
            refine J.aload_n 1 d_M_line_74 rfl rfl ?_
            refine J.getI hG d_M_line_75 fl_M_178 ck_109_21 ?_
            refine J.if_eq 82 d_M_line_78 rfl (fun c => ?_) (fun c => ?_)
            · rw [if_pos c] at h
              refine J.aload_n 1 d_M_line_82 rfl rfl ?_
              refine J.bipush (v := (59 : Int32)) d_M_line_83 kb_59 ?_
              obtain ⟨x7, m8, zm8, h⟩ := jbd_some h
              refine J.cVi Y_M_isSign (As := [.int (59 : Int32)]) (rest := []) hG d_M_line_85 mi_M_isSign mv_M_isSign lk_M_201 ⟨rfl, rfl, Nat.le_of_ble_eq_true rfl⟩ cq_109 cc_10 (c_M_isSign hG zm8) rfl (Nat.le_trans jcN (Nat.le_of_ble_eq_true rfl)) ?_
              refine J.if_ne 97 d_M_line_88 rfl (fun c => ?_) (fun c => ?_)
              · rw [if_neg c] at h
                refine J.aload_n 1 d_M_line_97 rfl rfl ?_
                obtain ⟨u9, m10, zm10, h⟩ := jbd_some h
                refine J.cVv Y_M_next (As := []) (rest := []) hG d_M_line_98 mi_M_next mv_M_next lk_M_188 ⟨rfl, rfl, Nat.le_of_ble_eq_true rfl⟩ cq_109 cc_10 (c_M_next hG zm10) rfl (Nat.le_trans jcN (Nat.le_of_ble_eq_true rfl)) ?_
                refine J.aload_n 1 d_M_line_101 rfl rfl ?_
                refine J.dup d_M_line_102 (jr_cat _ _) ?_
                refine J.getI hG d_M_line_103 fl_M_204 ck_109_15 ?_
                refine J.iconst (v := (1 : Int32)) d_M_line_106 ki_1 ?_
                refine J.iadd d_M_line_107 ?_
                obtain ⟨m11, hm11, h⟩ := jpu_some h
                refine J.putI hG d_M_line_108 fl_M_204 fp_10_15 ck_109_15 hm11 ?_
                refine J.nop (pc' := 111) rfl ?_
                cases h
                exact J.vret d_M_line_111 rfl rfl
              · rw [if_pos c] at h
                refine J.aload_n 1 d_M_line_91 rfl rfl ?_
                refine J.iconst (v := (1 : Int32)) d_M_line_92 ki_1 ?_
                obtain ⟨u12, m13, zm13, h⟩ := jbd_some h
                refine J.cVv Y_M_wrong (As := [.int (1 : Int32)]) (rest := []) hG d_M_line_93 mi_M_wrong mv_M_wrong lk_M_184 ⟨rfl, rfl, Nat.le_of_ble_eq_true rfl⟩ cq_109 cc_10 (c_M_wrong hG zm13) rfl (Nat.le_trans jcN (Nat.le_of_ble_eq_true rfl)) ?_
                cases h
                exact J.vret d_M_line_96 rfl rfl
            · rw [if_neg c] at h
              cases h
              exact J.vret d_M_line_81 rfl rfl
          · rw [if_pos c] at h
            refine J.iconst (v := (1 : Int32)) d_M_line_66 ki_1 ?_
            refine J.goto 71 d_M_line_67 rfl ?_
            obtain ⟨u14, m15, zm15, h⟩ := jbd_some h
            refine J.cVv Y_M_habit (As := [.int (1 : Int32)]) (rest := []) hG d_M_line_71 mi_M_habit mv_M_habit lk_M_197 ⟨rfl, rfl, Nat.le_of_ble_eq_true rfl⟩ cq_109 cc_10 (c_M_habit hG zm15) rfl (Nat.le_trans jcN (Nat.le_of_ble_eq_true rfl)) ?_
            refine J.aload_n 1 d_M_line_74 rfl rfl ?_
            refine J.getI hG d_M_line_75 fl_M_178 ck_109_21 ?_
            refine J.if_eq 82 d_M_line_78 rfl (fun c => ?_) (fun c => ?_)
            · rw [if_pos c] at h
              refine J.aload_n 1 d_M_line_82 rfl rfl ?_
              refine J.bipush (v := (59 : Int32)) d_M_line_83 kb_59 ?_
              obtain ⟨x16, m17, zm17, h⟩ := jbd_some h
              refine J.cVi Y_M_isSign (As := [.int (59 : Int32)]) (rest := []) hG d_M_line_85 mi_M_isSign mv_M_isSign lk_M_201 ⟨rfl, rfl, Nat.le_of_ble_eq_true rfl⟩ cq_109 cc_10 (c_M_isSign hG zm17) rfl (Nat.le_trans jcN (Nat.le_of_ble_eq_true rfl)) ?_
              refine J.if_ne 97 d_M_line_88 rfl (fun c => ?_) (fun c => ?_)
              · rw [if_neg c] at h
                refine J.aload_n 1 d_M_line_97 rfl rfl ?_
                obtain ⟨u18, m19, zm19, h⟩ := jbd_some h
                refine J.cVv Y_M_next (As := []) (rest := []) hG d_M_line_98 mi_M_next mv_M_next lk_M_188 ⟨rfl, rfl, Nat.le_of_ble_eq_true rfl⟩ cq_109 cc_10 (c_M_next hG zm19) rfl (Nat.le_trans jcN (Nat.le_of_ble_eq_true rfl)) ?_
                refine J.aload_n 1 d_M_line_101 rfl rfl ?_
                refine J.dup d_M_line_102 (jr_cat _ _) ?_
                refine J.getI hG d_M_line_103 fl_M_204 ck_109_15 ?_
                refine J.iconst (v := (1 : Int32)) d_M_line_106 ki_1 ?_
                refine J.iadd d_M_line_107 ?_
                obtain ⟨m20, hm20, h⟩ := jpu_some h
                refine J.putI hG d_M_line_108 fl_M_204 fp_10_15 ck_109_15 hm20 ?_
                refine J.nop (pc' := 111) rfl ?_
                cases h
                exact J.vret d_M_line_111 rfl rfl
              · rw [if_pos c] at h
                refine J.aload_n 1 d_M_line_91 rfl rfl ?_
                refine J.iconst (v := (1 : Int32)) d_M_line_92 ki_1 ?_
                obtain ⟨u21, m22, zm22, h⟩ := jbd_some h
                refine J.cVv Y_M_wrong (As := [.int (1 : Int32)]) (rest := []) hG d_M_line_93 mi_M_wrong mv_M_wrong lk_M_184 ⟨rfl, rfl, Nat.le_of_ble_eq_true rfl⟩ cq_109 cc_10 (c_M_wrong hG zm22) rfl (Nat.le_trans jcN (Nat.le_of_ble_eq_true rfl)) ?_
                cases h
                exact J.vret d_M_line_96 rfl rfl
            · rw [if_neg c] at h
              cases h
              exact J.vret d_M_line_81 rfl rfl
        · rw [if_pos c] at h
          refine J.aload_n 1 d_M_line_53 rfl rfl ?_
          obtain ⟨u23, m24, zm24, h⟩ := jbd_some h
          refine J.cVv Y_M_reads (As := []) (rest := []) hG d_M_line_54 mi_M_reads mv_M_reads lk_M_194 ⟨rfl, rfl, Nat.le_of_ble_eq_true rfl⟩ cq_109 cc_10 (c_M_reads hG zm24) rfl (Nat.le_trans jcN (Nat.le_of_ble_eq_true rfl)) ?_
          refine J.goto 74 d_M_line_57 rfl ?_
          refine J.aload_n 1 d_M_line_74 rfl rfl ?_
          refine J.getI hG d_M_line_75 fl_M_178 ck_109_21 ?_
          refine J.if_eq 82 d_M_line_78 rfl (fun c => ?_) (fun c => ?_)
          · rw [if_pos c] at h
            refine J.aload_n 1 d_M_line_82 rfl rfl ?_
            refine J.bipush (v := (59 : Int32)) d_M_line_83 kb_59 ?_
            obtain ⟨x25, m26, zm26, h⟩ := jbd_some h
            refine J.cVi Y_M_isSign (As := [.int (59 : Int32)]) (rest := []) hG d_M_line_85 mi_M_isSign mv_M_isSign lk_M_201 ⟨rfl, rfl, Nat.le_of_ble_eq_true rfl⟩ cq_109 cc_10 (c_M_isSign hG zm26) rfl (Nat.le_trans jcN (Nat.le_of_ble_eq_true rfl)) ?_
            refine J.if_ne 97 d_M_line_88 rfl (fun c => ?_) (fun c => ?_)
            · rw [if_neg c] at h
              refine J.aload_n 1 d_M_line_97 rfl rfl ?_
              obtain ⟨u27, m28, zm28, h⟩ := jbd_some h
              refine J.cVv Y_M_next (As := []) (rest := []) hG d_M_line_98 mi_M_next mv_M_next lk_M_188 ⟨rfl, rfl, Nat.le_of_ble_eq_true rfl⟩ cq_109 cc_10 (c_M_next hG zm28) rfl (Nat.le_trans jcN (Nat.le_of_ble_eq_true rfl)) ?_
              refine J.aload_n 1 d_M_line_101 rfl rfl ?_
              refine J.dup d_M_line_102 (jr_cat _ _) ?_
              refine J.getI hG d_M_line_103 fl_M_204 ck_109_15 ?_
              refine J.iconst (v := (1 : Int32)) d_M_line_106 ki_1 ?_
              refine J.iadd d_M_line_107 ?_
              obtain ⟨m29, hm29, h⟩ := jpu_some h
              refine J.putI hG d_M_line_108 fl_M_204 fp_10_15 ck_109_15 hm29 ?_
              refine J.nop (pc' := 111) rfl ?_
              cases h
              exact J.vret d_M_line_111 rfl rfl
            · rw [if_pos c] at h
              refine J.aload_n 1 d_M_line_91 rfl rfl ?_
              refine J.iconst (v := (1 : Int32)) d_M_line_92 ki_1 ?_
              obtain ⟨u30, m31, zm31, h⟩ := jbd_some h
              refine J.cVv Y_M_wrong (As := [.int (1 : Int32)]) (rest := []) hG d_M_line_93 mi_M_wrong mv_M_wrong lk_M_184 ⟨rfl, rfl, Nat.le_of_ble_eq_true rfl⟩ cq_109 cc_10 (c_M_wrong hG zm31) rfl (Nat.le_trans jcN (Nat.le_of_ble_eq_true rfl)) ?_
              cases h
              exact J.vret d_M_line_96 rfl rfl
          · rw [if_neg c] at h
            cases h
            exact J.vret d_M_line_81 rfl rfl
      · rw [if_neg c] at h
        refine J.aload_n 1 d_M_line_30 rfl rfl ?_
        refine J.getI hG d_M_line_31 fl_M_191 ck_109_12 ?_
        refine J.bipush (v := (8 : Int32)) d_M_line_34 kb_8 ?_
        refine J.nop (pc' := 36) rfl ?_
        refine J.icmp_ne 45 d_M_line_36 rfl (fun c => ?_) (fun c => ?_)
        · rw [if_neg c] at h
          refine J.aload_n 1 d_M_line_45 rfl rfl ?_
          obtain ⟨u32, m33, zm33, h⟩ := jbd_some h
          refine J.cVv Y_M_next (As := []) (rest := []) hG d_M_line_46 mi_M_next mv_M_next lk_M_188 ⟨rfl, rfl, Nat.le_of_ble_eq_true rfl⟩ cq_109 cc_10 (c_M_next hG zm33) rfl (Nat.le_trans jcN (Nat.le_of_ble_eq_true rfl)) ?_
          refine J.iload_n 0 d_M_line_49 rfl rfl ?_
          refine J.if_ne 60 d_M_line_50 rfl (fun c => ?_) (fun c => ?_)
          · rw [if_neg c] at h
            refine J.aload_n 1 d_M_line_60 rfl rfl ?_
            refine J.iload_n 0 d_M_line_61 rfl rfl ?_
            refine J.iconst (v := (2 : Int32)) d_M_line_62 ki_2 ?_
            refine J.icmp_ne 70 d_M_line_63 rfl (fun c => ?_) (fun c => ?_)
            · rw [if_neg c] at h
              refine J.iconst (v := (0 : Int32)) d_M_line_70 ki_0 ?_
              obtain ⟨u34, m35, zm35, h⟩ := jbd_some h
              refine J.cVv Y_M_habit (As := [.int (0 : Int32)]) (rest := []) hG d_M_line_71 mi_M_habit mv_M_habit lk_M_197 ⟨rfl, rfl, Nat.le_of_ble_eq_true rfl⟩ cq_109 cc_10 (c_M_habit hG zm35) rfl (Nat.le_trans jcN (Nat.le_of_ble_eq_true rfl)) ?_
              refine J.aload_n 1 d_M_line_74 rfl rfl ?_
              refine J.getI hG d_M_line_75 fl_M_178 ck_109_21 ?_
              refine J.if_eq 82 d_M_line_78 rfl (fun c => ?_) (fun c => ?_)
              · rw [if_pos c] at h
                refine J.aload_n 1 d_M_line_82 rfl rfl ?_
                refine J.bipush (v := (59 : Int32)) d_M_line_83 kb_59 ?_
                obtain ⟨x36, m37, zm37, h⟩ := jbd_some h
                refine J.cVi Y_M_isSign (As := [.int (59 : Int32)]) (rest := []) hG d_M_line_85 mi_M_isSign mv_M_isSign lk_M_201 ⟨rfl, rfl, Nat.le_of_ble_eq_true rfl⟩ cq_109 cc_10 (c_M_isSign hG zm37) rfl (Nat.le_trans jcN (Nat.le_of_ble_eq_true rfl)) ?_
                refine J.if_ne 97 d_M_line_88 rfl (fun c => ?_) (fun c => ?_)
                · rw [if_neg c] at h
                  refine J.aload_n 1 d_M_line_97 rfl rfl ?_
                  obtain ⟨u38, m39, zm39, h⟩ := jbd_some h
                  refine J.cVv Y_M_next (As := []) (rest := []) hG d_M_line_98 mi_M_next mv_M_next lk_M_188 ⟨rfl, rfl, Nat.le_of_ble_eq_true rfl⟩ cq_109 cc_10 (c_M_next hG zm39) rfl (Nat.le_trans jcN (Nat.le_of_ble_eq_true rfl)) ?_
                  refine J.aload_n 1 d_M_line_101 rfl rfl ?_
                  refine J.dup d_M_line_102 (jr_cat _ _) ?_
                  refine J.getI hG d_M_line_103 fl_M_204 ck_109_15 ?_
                  refine J.iconst (v := (1 : Int32)) d_M_line_106 ki_1 ?_
                  refine J.iadd d_M_line_107 ?_
                  obtain ⟨m40, hm40, h⟩ := jpu_some h
                  refine J.putI hG d_M_line_108 fl_M_204 fp_10_15 ck_109_15 hm40 ?_
                  refine J.nop (pc' := 111) rfl ?_
                  cases h
                  exact J.vret d_M_line_111 rfl rfl
                · rw [if_pos c] at h
                  refine J.aload_n 1 d_M_line_91 rfl rfl ?_
                  refine J.iconst (v := (1 : Int32)) d_M_line_92 ki_1 ?_
                  obtain ⟨u41, m42, zm42, h⟩ := jbd_some h
                  refine J.cVv Y_M_wrong (As := [.int (1 : Int32)]) (rest := []) hG d_M_line_93 mi_M_wrong mv_M_wrong lk_M_184 ⟨rfl, rfl, Nat.le_of_ble_eq_true rfl⟩ cq_109 cc_10 (c_M_wrong hG zm42) rfl (Nat.le_trans jcN (Nat.le_of_ble_eq_true rfl)) ?_
                  cases h
                  exact J.vret d_M_line_96 rfl rfl
              · rw [if_neg c] at h
                cases h
                exact J.vret d_M_line_81 rfl rfl
            · rw [if_pos c] at h
              refine J.iconst (v := (1 : Int32)) d_M_line_66 ki_1 ?_
              refine J.goto 71 d_M_line_67 rfl ?_
              obtain ⟨u43, m44, zm44, h⟩ := jbd_some h
              refine J.cVv Y_M_habit (As := [.int (1 : Int32)]) (rest := []) hG d_M_line_71 mi_M_habit mv_M_habit lk_M_197 ⟨rfl, rfl, Nat.le_of_ble_eq_true rfl⟩ cq_109 cc_10 (c_M_habit hG zm44) rfl (Nat.le_trans jcN (Nat.le_of_ble_eq_true rfl)) ?_
              refine J.aload_n 1 d_M_line_74 rfl rfl ?_
              refine J.getI hG d_M_line_75 fl_M_178 ck_109_21 ?_
              refine J.if_eq 82 d_M_line_78 rfl (fun c => ?_) (fun c => ?_)
              · rw [if_pos c] at h
                refine J.aload_n 1 d_M_line_82 rfl rfl ?_
                refine J.bipush (v := (59 : Int32)) d_M_line_83 kb_59 ?_
                obtain ⟨x45, m46, zm46, h⟩ := jbd_some h
                refine J.cVi Y_M_isSign (As := [.int (59 : Int32)]) (rest := []) hG d_M_line_85 mi_M_isSign mv_M_isSign lk_M_201 ⟨rfl, rfl, Nat.le_of_ble_eq_true rfl⟩ cq_109 cc_10 (c_M_isSign hG zm46) rfl (Nat.le_trans jcN (Nat.le_of_ble_eq_true rfl)) ?_
                refine J.if_ne 97 d_M_line_88 rfl (fun c => ?_) (fun c => ?_)
                · rw [if_neg c] at h
                  refine J.aload_n 1 d_M_line_97 rfl rfl ?_
                  obtain ⟨u47, m48, zm48, h⟩ := jbd_some h
                  refine J.cVv Y_M_next (As := []) (rest := []) hG d_M_line_98 mi_M_next mv_M_next lk_M_188 ⟨rfl, rfl, Nat.le_of_ble_eq_true rfl⟩ cq_109 cc_10 (c_M_next hG zm48) rfl (Nat.le_trans jcN (Nat.le_of_ble_eq_true rfl)) ?_
                  refine J.aload_n 1 d_M_line_101 rfl rfl ?_
                  refine J.dup d_M_line_102 (jr_cat _ _) ?_
                  refine J.getI hG d_M_line_103 fl_M_204 ck_109_15 ?_
                  refine J.iconst (v := (1 : Int32)) d_M_line_106 ki_1 ?_
                  refine J.iadd d_M_line_107 ?_
                  obtain ⟨m49, hm49, h⟩ := jpu_some h
                  refine J.putI hG d_M_line_108 fl_M_204 fp_10_15 ck_109_15 hm49 ?_
                  refine J.nop (pc' := 111) rfl ?_
                  cases h
                  exact J.vret d_M_line_111 rfl rfl
                · rw [if_pos c] at h
                  refine J.aload_n 1 d_M_line_91 rfl rfl ?_
                  refine J.iconst (v := (1 : Int32)) d_M_line_92 ki_1 ?_
                  obtain ⟨u50, m51, zm51, h⟩ := jbd_some h
                  refine J.cVv Y_M_wrong (As := [.int (1 : Int32)]) (rest := []) hG d_M_line_93 mi_M_wrong mv_M_wrong lk_M_184 ⟨rfl, rfl, Nat.le_of_ble_eq_true rfl⟩ cq_109 cc_10 (c_M_wrong hG zm51) rfl (Nat.le_trans jcN (Nat.le_of_ble_eq_true rfl)) ?_
                  cases h
                  exact J.vret d_M_line_96 rfl rfl
              · rw [if_neg c] at h
                cases h
                exact J.vret d_M_line_81 rfl rfl
          · rw [if_pos c] at h
            refine J.aload_n 1 d_M_line_53 rfl rfl ?_
            obtain ⟨u52, m53, zm53, h⟩ := jbd_some h
            refine J.cVv Y_M_reads (As := []) (rest := []) hG d_M_line_54 mi_M_reads mv_M_reads lk_M_194 ⟨rfl, rfl, Nat.le_of_ble_eq_true rfl⟩ cq_109 cc_10 (c_M_reads hG zm53) rfl (Nat.le_trans jcN (Nat.le_of_ble_eq_true rfl)) ?_
            refine J.goto 74 d_M_line_57 rfl ?_
            refine J.aload_n 1 d_M_line_74 rfl rfl ?_
            refine J.getI hG d_M_line_75 fl_M_178 ck_109_21 ?_
            refine J.if_eq 82 d_M_line_78 rfl (fun c => ?_) (fun c => ?_)
            · rw [if_pos c] at h
              refine J.aload_n 1 d_M_line_82 rfl rfl ?_
              refine J.bipush (v := (59 : Int32)) d_M_line_83 kb_59 ?_
              obtain ⟨x54, m55, zm55, h⟩ := jbd_some h
              refine J.cVi Y_M_isSign (As := [.int (59 : Int32)]) (rest := []) hG d_M_line_85 mi_M_isSign mv_M_isSign lk_M_201 ⟨rfl, rfl, Nat.le_of_ble_eq_true rfl⟩ cq_109 cc_10 (c_M_isSign hG zm55) rfl (Nat.le_trans jcN (Nat.le_of_ble_eq_true rfl)) ?_
              refine J.if_ne 97 d_M_line_88 rfl (fun c => ?_) (fun c => ?_)
              · rw [if_neg c] at h
                refine J.aload_n 1 d_M_line_97 rfl rfl ?_
                obtain ⟨u56, m57, zm57, h⟩ := jbd_some h
                refine J.cVv Y_M_next (As := []) (rest := []) hG d_M_line_98 mi_M_next mv_M_next lk_M_188 ⟨rfl, rfl, Nat.le_of_ble_eq_true rfl⟩ cq_109 cc_10 (c_M_next hG zm57) rfl (Nat.le_trans jcN (Nat.le_of_ble_eq_true rfl)) ?_
                refine J.aload_n 1 d_M_line_101 rfl rfl ?_
                refine J.dup d_M_line_102 (jr_cat _ _) ?_
                refine J.getI hG d_M_line_103 fl_M_204 ck_109_15 ?_
                refine J.iconst (v := (1 : Int32)) d_M_line_106 ki_1 ?_
                refine J.iadd d_M_line_107 ?_
                obtain ⟨m58, hm58, h⟩ := jpu_some h
                refine J.putI hG d_M_line_108 fl_M_204 fp_10_15 ck_109_15 hm58 ?_
                refine J.nop (pc' := 111) rfl ?_
                cases h
                exact J.vret d_M_line_111 rfl rfl
              · rw [if_pos c] at h
                refine J.aload_n 1 d_M_line_91 rfl rfl ?_
                refine J.iconst (v := (1 : Int32)) d_M_line_92 ki_1 ?_
                obtain ⟨u59, m60, zm60, h⟩ := jbd_some h
                refine J.cVv Y_M_wrong (As := [.int (1 : Int32)]) (rest := []) hG d_M_line_93 mi_M_wrong mv_M_wrong lk_M_184 ⟨rfl, rfl, Nat.le_of_ble_eq_true rfl⟩ cq_109 cc_10 (c_M_wrong hG zm60) rfl (Nat.le_trans jcN (Nat.le_of_ble_eq_true rfl)) ?_
                cases h
                exact J.vret d_M_line_96 rfl rfl
            · rw [if_neg c] at h
              cases h
              exact J.vret d_M_line_81 rfl rfl
        · rw [if_pos c] at h
          refine J.aload_n 1 d_M_line_39 rfl rfl ?_
          refine J.iconst (v := (2 : Int32)) d_M_line_40 ki_2 ?_
          obtain ⟨u61, m62, zm62, h⟩ := jbd_some h
          refine J.cVv Y_M_wrong (As := [.int (2 : Int32)]) (rest := []) hG d_M_line_41 mi_M_wrong mv_M_wrong lk_M_184 ⟨rfl, rfl, Nat.le_of_ble_eq_true rfl⟩ cq_109 cc_10 (c_M_wrong hG zm62) rfl (Nat.le_trans jcN (Nat.le_of_ble_eq_true rfl)) ?_
          cases h
          exact J.vret d_M_line_44 rfl rfl
    · rw [if_neg c] at h
      refine J.aload_n 0 d_M_line_15 rfl rfl ?_
      refine J.nop (pc' := 16) rfl ?_
      refine J.iconst (v := (1 : Int32)) d_M_line_16 ki_1 ?_
      obtain ⟨u63, m64, zm64, h⟩ := jbd_some h
      refine J.cVv Y_M_wrong (As := [.int (1 : Int32)]) (rest := []) hG d_M_line_17 mi_M_wrong mv_M_wrong lk_M_184 ⟨rfl, rfl, Nat.le_of_ble_eq_true rfl⟩ cq_109 cc_10 (c_M_wrong hG zm64) rfl (Nat.le_trans jcN (Nat.le_of_ble_eq_true rfl)) ?_
      cases h
      exact J.vret d_M_line_20 rfl rfl

def lp_M_text_80 (k102 : jMem → Option (Int32 × jMem)) : Nat → Int32 → jMem → Option (Int32 × jMem)
  | 0, _, _ => none
  | n + 1, v2, m =>
    if (6 : Int32) ≤ v2 then
      k102 m
    else
      jst 1 m 116 ((6 : Int32) + v2) (1 : Int32) fun m13 =>
      lp_M_text_80 k102 n (v2 + (1 : Int32)) m13
def lp_M_text_106 (k128 : jMem → Option (Int32 × jMem)) : Nat → jMem → Option (Int32 × jMem)
  | 0, _ => none
  | n + 1, m =>
    if (m 109 21) = 0 then
      if (m 109 19) = (3 : Int32) then
        k128 m
      else
        jbd (f_M_line m) fun u17 m18 =>
        lp_M_text_106 k128 n m18
    else
      k128 m
def lp_M_text_155 (k197 : jMem → Option (Int32 × jMem)) : Nat → Int32 → jMem → Option (Int32 × jMem)
  | 0, _, _ => none
  | n + 1, v2, m =>
    if (64 : Int32) ≤ v2 then
      k197 m
    else
      jld 1 m 111 ((64 : Int32) + v2) fun x22 =>
      jst 1 m 111 v2 x22 fun m23 =>
      jld 1 m23 112 ((64 : Int32) + v2) fun x24 =>
      jst 1 m23 112 v2 x24 fun m25 =>
      lp_M_text_155 k197 n (v2 + (1 : Int32)) m25
def lp_M_text_199 (k256 : jMem → Option (Int32 × jMem)) : Nat → Int32 → jMem → Option (Int32 × jMem)
  | 0, _, _ => none
  | n + 1, v2, m =>
    if (9 : Int32) ≤ v2 then
      k256 m
    else
      jld 2 m 113 ((9 : Int32) + v2) fun x27 =>
      jst 2 m 113 v2 (jbz x27) fun m28 =>
      jld 1 m28 114 ((9 : Int32) + v2) fun x29 =>
      jst 1 m28 114 v2 x29 fun m30 =>
      jld 1 m30 115 ((9 : Int32) + v2) fun x31 =>
      jst 1 m30 115 v2 x31 fun m32 =>
      lp_M_text_199 k256 n (v2 + (1 : Int32)) m32
def lp_M_text_258 (k285 : jMem → Option (Int32 × jMem)) : Nat → Int32 → jMem → Option (Int32 × jMem)
  | 0, _, _ => none
  | n + 1, v2, m =>
    if (6 : Int32) ≤ v2 then
      k285 m
    else
      jld 1 m 116 ((6 : Int32) + v2) fun x34 =>
      jst 1 m 116 v2 x34 fun m35 =>
      lp_M_text_258 k285 n (v2 + (1 : Int32)) m35
def f_M_text (v1 : Int32) (m : jMem) : Option (Int32 × jMem) :=
  jpu m 109 0 (0 : Int32) fun m1 =>
  if v1 < 0 then
    some ((-2 : Int32), m1)
  else
    if v1 ≤ (m1 109 2) then
      jpu m1 109 16 v1 fun m2 =>
      jpu m2 109 2 (0 : Int32) fun m3 =>
      jpu m3 109 17 (0 : Int32) fun m4 =>
      jpu m4 109 21 (0 : Int32) fun m5 =>
      jpu m5 109 22 (-1 : Int32) fun m6 =>
      jpu m6 109 7 (0 : Int32) fun m7 =>
      jpu m7 109 5 (0 : Int32) fun m8 =>
      jpu m8 109 12 (0 : Int32) fun m9 =>
      jpu m9 109 14 (0 : Int32) fun m10 =>
      jpu m10 109 15 (0 : Int32) fun m11 =>
      jst 1 m11 115 (9 : Int32) (0 : Int32) fun m12 =>
      lp_M_text_80 (fun m14 =>
        jbd (f_M_next m14) fun u15 m16 =>
        lp_M_text_106 (fun m19 =>
          jpu m19 109 23 (m19 109 21) fun m20 =>
          jpu m20 109 24 (m20 109 22) fun m21 =>
          if (m21 109 21) = 0 then
            lp_M_text_155 (fun m26 =>
              lp_M_text_199 (fun m33 =>
                lp_M_text_258 (fun m36 =>
                  jpu m36 109 11 (m36 109 12) fun m37 =>
                  jpu m37 109 6 (m37 109 7) fun m38 =>
                  some ((m38 109 15), m38)) 5000 (0 : Int32) m33) 5000 (0 : Int32) m26) 5000 (0 : Int32) m21
          else
            some ((-1 : Int32), m21)) 5000 m16) 5000 (0 : Int32) m12
    else
      some ((-2 : Int32), m1)
theorem jlp_M_text_80 {G : jG} (hG : jFul G) (k102 : jMem → Option (Int32 × jMem))
    (hk102 : ∀ (m : jMem) (r : (Int32 × jMem)), k102 m = some r → J G Y_M_text 102 [(0, jr G 109)] [] m (jri r)) : ∀ (n : Nat) (v2 : Int32) (m : jMem) (r : (Int32 × jMem)), lp_M_text_80 k102 n v2 m = some r → J G Y_M_text 80 [(0, jr G 109), (2, .int v2)] [] m (jri r) := by
  intro n
  induction n with
  | zero => intro v2 m r h; unfold lp_M_text_80 at h; cases h
  | succ n ih =>
    intro v2 m r h
    unfold lp_M_text_80 at h
    refine J.iload_n 1 d_M_text_80 rfl rfl ?_
    refine J.bipush (v := (6 : Int32)) d_M_text_81 kb_6 ?_
    refine J.icmp_ge 102 d_M_text_83 rfl (fun c => ?_) (fun c => ?_)
    · rw [if_pos c] at h
      exact J.sub (ls' := [(0, jr G 109)]) [0] rfl (hk102  m _ h)
    · rw [if_neg c] at h
      refine J.aload_n 0 d_M_text_86 rfl rfl ?_
      refine J.getF (n := 116) hG d_M_text_87 fl_M_29 ck_109_13 rfl ?_
      refine J.bipush (v := (6 : Int32)) d_M_text_90 kb_6 ?_
      refine J.iload_n 1 d_M_text_92 rfl rfl ?_
      refine J.iadd d_M_text_93 ?_
      refine J.nop (pc' := 94) rfl ?_
      refine J.iconst (v := (1 : Int32)) d_M_text_94 ki_1 ?_
      obtain ⟨m13, hm13, g, h⟩ := jst_some h
      refine J.is hG d_M_text_95 g hm13 ?_
      refine J.iinc 1 (v := (1 : Int32)) (lv := [(2, .int (v2 + (1 : Int32))), (0, jr G 109)]) d_M_text_96 rfl ki_1 (by decide) rfl ?_
      refine J.goto 80 d_M_text_99 rfl ?_
      exact J.sub (ls' := [(0, jr G 109), (2, .int (v2 + (1 : Int32)))]) [1, 0] rfl (ih (v2 + (1 : Int32)) m13 _ h)
theorem jlp_M_text_106 {G : jG} (hG : jFul G) (k128 : jMem → Option (Int32 × jMem))
    (hk128 : ∀ (m : jMem) (r : (Int32 × jMem)), k128 m = some r → J G Y_M_text 128 [(0, jr G 109)] [] m (jri r)) : ∀ (n : Nat) (m : jMem) (r : (Int32 × jMem)), lp_M_text_106 k128 n m = some r → J G Y_M_text 106 [(0, jr G 109)] [] m (jri r) := by
  intro n
  induction n with
  | zero => intro m r h; unfold lp_M_text_106 at h; cases h
  | succ n ih =>
    intro m r h
    unfold lp_M_text_106 at h
    refine J.aload_n 0 d_M_text_106 rfl rfl ?_
    refine J.getI hG d_M_text_107 fl_M_178 ck_109_21 ?_
    refine J.if_ne 128 d_M_text_110 rfl (fun c => ?_) (fun c => ?_)
    · rw [if_neg c] at h
      exact J.sub (ls' := [(0, jr G 109)]) [0] rfl (hk128  m _ h)
    · rw [if_pos c] at h
      refine J.aload_n 0 d_M_text_113 rfl rfl ?_
      refine J.getI hG d_M_text_114 fl_M_151 ck_109_19 ?_
      refine J.iconst (v := (3 : Int32)) d_M_text_117 ki_3 ?_
      refine J.icmp_eq 128 d_M_text_118 rfl (fun c => ?_) (fun c => ?_)
      · rw [if_pos c] at h
        exact J.sub (ls' := [(0, jr G 109)]) [0] rfl (hk128  m _ h)
      · rw [if_neg c] at h
        refine J.aload_n 0 d_M_text_121 rfl rfl ?_
        refine J.nop (pc' := 122) rfl ?_
        obtain ⟨u17, m18, zm18, h⟩ := jbd_some h
        refine J.cVv Y_M_line (As := []) (rest := []) hG d_M_text_122 mi_M_line mv_M_line lk_M_255 ⟨rfl, rfl, Nat.le_of_ble_eq_true rfl⟩ cq_109 cc_10 (c_M_line hG zm18) rfl (Nat.le_trans jcN (Nat.le_of_ble_eq_true rfl)) ?_
        refine J.goto 106 d_M_text_125 rfl ?_
        exact J.sub (ls' := [(0, jr G 109)]) [0] rfl (ih  m18 _ h)
theorem jlp_M_text_155 {G : jG} (hG : jFul G) (k197 : jMem → Option (Int32 × jMem))
    (hk197 : ∀ (m : jMem) (r : (Int32 × jMem)), k197 m = some r → J G Y_M_text 197 [(0, jr G 109)] [] m (jri r)) : ∀ (n : Nat) (v2 : Int32) (m : jMem) (r : (Int32 × jMem)), lp_M_text_155 k197 n v2 m = some r → J G Y_M_text 155 [(0, jr G 109), (2, .int v2)] [] m (jri r) := by
  intro n
  induction n with
  | zero => intro v2 m r h; unfold lp_M_text_155 at h; cases h
  | succ n ih =>
    intro v2 m r h
    unfold lp_M_text_155 at h
    refine J.iload_n 1 d_M_text_155 rfl rfl ?_
    refine J.bipush (v := (64 : Int32)) d_M_text_156 kb_64 ?_
    refine J.icmp_ge 197 d_M_text_158 rfl (fun c => ?_) (fun c => ?_)
    · rw [if_pos c] at h
      exact J.sub (ls' := [(0, jr G 109)]) [0] rfl (hk197  m _ h)
    · rw [if_neg c] at h
      refine J.aload_n 0 d_M_text_161 rfl rfl ?_
      refine J.getF (n := 111) hG d_M_text_162 fl_M_13 ck_109_3 rfl ?_
      refine J.iload_n 1 d_M_text_165 rfl rfl ?_
      refine J.aload_n 0 d_M_text_166 rfl rfl ?_
      refine J.getF (n := 111) hG d_M_text_167 fl_M_13 ck_109_3 rfl ?_
      refine J.nop (pc' := 170) rfl ?_
      refine J.bipush (v := (64 : Int32)) d_M_text_170 kb_64 ?_
      refine J.iload_n 1 d_M_text_172 rfl rfl ?_
      refine J.iadd d_M_text_173 ?_
      obtain ⟨x22, ex22, g, h⟩ := jld_some h
      refine J.il hG d_M_text_174 g ex22 ?_
      obtain ⟨m23, hm23, g, h⟩ := jst_some h
      refine J.is hG d_M_text_175 g hm23 ?_
      refine J.aload_n 0 d_M_text_176 rfl rfl ?_
      refine J.getF (n := 112) hG d_M_text_177 fl_M_16 ck_109_4 rfl ?_
      refine J.iload_n 1 d_M_text_180 rfl rfl ?_
      refine J.nop (pc' := 181) rfl ?_
      refine J.aload_n 0 d_M_text_181 rfl rfl ?_
      refine J.getF (n := 112) hG d_M_text_182 fl_M_16 ck_109_4 rfl ?_
      refine J.bipush (v := (64 : Int32)) d_M_text_185 kb_64 ?_
      refine J.iload_n 1 d_M_text_187 rfl rfl ?_
      refine J.iadd d_M_text_188 ?_
      obtain ⟨x24, ex24, g, h⟩ := jld_some h
      refine J.il hG d_M_text_189 g ex24 ?_
      obtain ⟨m25, hm25, g, h⟩ := jst_some h
      refine J.is hG d_M_text_190 g hm25 ?_
      refine J.iinc 1 (v := (1 : Int32)) (lv := [(2, .int (v2 + (1 : Int32))), (0, jr G 109)]) d_M_text_191 rfl ki_1 (by decide) rfl ?_
      refine J.nop (pc' := 194) rfl ?_
      refine J.goto 155 d_M_text_194 rfl ?_
      exact J.sub (ls' := [(0, jr G 109), (2, .int (v2 + (1 : Int32)))]) [1, 0] rfl (ih (v2 + (1 : Int32)) m25 _ h)
theorem jlp_M_text_199 {G : jG} (hG : jFul G) (k256 : jMem → Option (Int32 × jMem))
    (hk256 : ∀ (m : jMem) (r : (Int32 × jMem)), k256 m = some r → J G Y_M_text 256 [(0, jr G 109)] [] m (jri r)) : ∀ (n : Nat) (v2 : Int32) (m : jMem) (r : (Int32 × jMem)), lp_M_text_199 k256 n v2 m = some r → J G Y_M_text 199 [(0, jr G 109), (2, .int v2)] [] m (jri r) := by
  intro n
  induction n with
  | zero => intro v2 m r h; unfold lp_M_text_199 at h; cases h
  | succ n ih =>
    intro v2 m r h
    unfold lp_M_text_199 at h
    refine J.iload_n 1 d_M_text_199 rfl rfl ?_
    refine J.bipush (v := (9 : Int32)) d_M_text_200 kb_9 ?_
    refine J.icmp_ge 256 d_M_text_202 rfl (fun c => ?_) (fun c => ?_)
    · rw [if_pos c] at h
      exact J.sub (ls' := [(0, jr G 109)]) [0] rfl (hk256  m _ h)
    · rw [if_neg c] at h
      refine J.aload_n 0 d_M_text_205 rfl rfl ?_
      refine J.getF (n := 113) hG d_M_text_206 fl_M_19 ck_109_8 rfl ?_
      refine J.iload_n 1 d_M_text_209 rfl rfl ?_
      refine J.aload_n 0 d_M_text_210 rfl rfl ?_
      refine J.getF (n := 113) hG d_M_text_211 fl_M_19 ck_109_8 rfl ?_
      refine J.nop (pc' := 214) rfl ?_
      refine J.bipush (v := (9 : Int32)) d_M_text_214 kb_9 ?_
      refine J.iload_n 1 d_M_text_216 rfl rfl ?_
      refine J.iadd d_M_text_217 ?_
      obtain ⟨x27, ex27, g, h⟩ := jld_some h
      refine J.zl hG d_M_text_218 g ex27 ?_
      obtain ⟨m28, hm28, g, h⟩ := jst_some h
      refine J.zs hG d_M_text_219 g hm28 ?_
      refine J.aload_n 0 d_M_text_220 rfl rfl ?_
      refine J.getF (n := 114) hG d_M_text_221 fl_M_23 ck_109_9 rfl ?_
      refine J.iload_n 1 d_M_text_224 rfl rfl ?_
      refine J.nop (pc' := 225) rfl ?_
      refine J.aload_n 0 d_M_text_225 rfl rfl ?_
      refine J.getF (n := 114) hG d_M_text_226 fl_M_23 ck_109_9 rfl ?_
      refine J.bipush (v := (9 : Int32)) d_M_text_229 kb_9 ?_
      refine J.iload_n 1 d_M_text_231 rfl rfl ?_
      refine J.iadd d_M_text_232 ?_
      obtain ⟨x29, ex29, g, h⟩ := jld_some h
      refine J.il hG d_M_text_233 g ex29 ?_
      obtain ⟨m30, hm30, g, h⟩ := jst_some h
      refine J.is hG d_M_text_234 g hm30 ?_
      refine J.aload_n 0 d_M_text_235 rfl rfl ?_
      refine J.nop (pc' := 236) rfl ?_
      refine J.getF (n := 115) hG d_M_text_236 fl_M_26 ck_109_10 rfl ?_
      refine J.iload_n 1 d_M_text_239 rfl rfl ?_
      refine J.aload_n 0 d_M_text_240 rfl rfl ?_
      refine J.getF (n := 115) hG d_M_text_241 fl_M_26 ck_109_10 rfl ?_
      refine J.bipush (v := (9 : Int32)) d_M_text_244 kb_9 ?_
      refine J.iload_n 1 d_M_text_246 rfl rfl ?_
      refine J.iadd d_M_text_247 ?_
      obtain ⟨x31, ex31, g, h⟩ := jld_some h
      refine J.il hG d_M_text_248 g ex31 ?_
      refine J.nop (pc' := 249) rfl ?_
      obtain ⟨m32, hm32, g, h⟩ := jst_some h
      refine J.is hG d_M_text_249 g hm32 ?_
      refine J.iinc 1 (v := (1 : Int32)) (lv := [(2, .int (v2 + (1 : Int32))), (0, jr G 109)]) d_M_text_250 rfl ki_1 (by decide) rfl ?_
      refine J.goto 199 d_M_text_253 rfl ?_
      exact J.sub (ls' := [(0, jr G 109), (2, .int (v2 + (1 : Int32)))]) [1, 0] rfl (ih (v2 + (1 : Int32)) m32 _ h)
theorem jlp_M_text_258 {G : jG} (hG : jFul G) (k285 : jMem → Option (Int32 × jMem))
    (hk285 : ∀ (m : jMem) (r : (Int32 × jMem)), k285 m = some r → J G Y_M_text 285 [(0, jr G 109)] [] m (jri r)) : ∀ (n : Nat) (v2 : Int32) (m : jMem) (r : (Int32 × jMem)), lp_M_text_258 k285 n v2 m = some r → J G Y_M_text 258 [(0, jr G 109), (2, .int v2)] [] m (jri r) := by
  intro n
  induction n with
  | zero => intro v2 m r h; unfold lp_M_text_258 at h; cases h
  | succ n ih =>
    intro v2 m r h
    unfold lp_M_text_258 at h
    refine J.iload_n 1 d_M_text_258 rfl rfl ?_
    refine J.bipush (v := (6 : Int32)) d_M_text_259 kb_6 ?_
    refine J.icmp_ge 285 d_M_text_261 rfl (fun c => ?_) (fun c => ?_)
    · rw [if_pos c] at h
      exact J.sub (ls' := [(0, jr G 109)]) [0] rfl (hk285  m _ h)
    · rw [if_neg c] at h
      refine J.aload_n 0 d_M_text_264 rfl rfl ?_
      refine J.getF (n := 116) hG d_M_text_265 fl_M_29 ck_109_13 rfl ?_
      refine J.iload_n 1 d_M_text_268 rfl rfl ?_
      refine J.aload_n 0 d_M_text_269 rfl rfl ?_
      refine J.getF (n := 116) hG d_M_text_270 fl_M_29 ck_109_13 rfl ?_
      refine J.nop (pc' := 273) rfl ?_
      refine J.bipush (v := (6 : Int32)) d_M_text_273 kb_6 ?_
      refine J.iload_n 1 d_M_text_275 rfl rfl ?_
      refine J.iadd d_M_text_276 ?_
      obtain ⟨x34, ex34, g, h⟩ := jld_some h
      refine J.il hG d_M_text_277 g ex34 ?_
      obtain ⟨m35, hm35, g, h⟩ := jst_some h
      refine J.is hG d_M_text_278 g hm35 ?_
      refine J.iinc 1 (v := (1 : Int32)) (lv := [(2, .int (v2 + (1 : Int32))), (0, jr G 109)]) d_M_text_279 rfl ki_1 (by decide) rfl ?_
      refine J.goto 258 d_M_text_282 rfl ?_
      exact J.sub (ls' := [(0, jr G 109), (2, .int (v2 + (1 : Int32)))]) [1, 0] rfl (ih (v2 + (1 : Int32)) m35 _ h)
theorem c_M_text {G : jG} (hG : jFul G) {v1 : Int32} {m : jMem} {r : (Int32 × jMem)} (h : f_M_text v1 m = some r) : jCt G Y_M_text [jr G 109, .int v1] m (jri r) := by
  refine jCt.ov (ls := [(0, jr G 109), (1, .int v1)]) mi_M_text (jAvR (jAvI jAvN)) (Nat.le_of_ble_eq_true rfl) ?_ ⟨rfl, rfl⟩
  unfold f_M_text at h
  refine J.aload_n 0 d_M_text_0 rfl rfl ?_
  refine J.iconst (v := (0 : Int32)) d_M_text_1 ki_0 ?_
  obtain ⟨m1, hm1, h⟩ := jpu_some h
  refine J.putI hG d_M_text_2 fl_M_132 fp_10_0 ck_109_0 hm1 ?_
  refine J.iload_n 1 d_M_text_5 rfl rfl ?_
  refine J.if_lt 17 d_M_text_6 rfl (fun c => ?_) (fun c => ?_)
  · rw [if_pos c] at h
    refine J.bipush (v := (-2 : Int32)) d_M_text_17 kb_m2 ?_
    cases h
    exact J.iret d_M_text_19 rfl (vp_nar_int _) rfl
  · rw [if_neg c] at h
    refine J.iload_n 1 d_M_text_9 rfl rfl ?_
    refine J.aload_n 0 d_M_text_10 rfl rfl ?_
    refine J.getI hG d_M_text_11 fl_M_135 ck_109_2 ?_
    refine J.nop (pc' := 14) rfl ?_
    refine J.icmp_le 20 d_M_text_14 rfl (fun c => ?_) (fun c => ?_)
    · rw [if_pos c] at h
      refine J.aload_n 0 d_M_text_20 rfl rfl ?_
      refine J.iload_n 1 d_M_text_21 rfl rfl ?_
      obtain ⟨m2, hm2, h⟩ := jpu_some h
      refine J.putI hG d_M_text_22 fl_M_141 fp_10_16 ck_109_16 hm2 ?_
      refine J.aload_n 0 d_M_text_25 rfl rfl ?_
      refine J.iconst (v := (0 : Int32)) d_M_text_26 ki_0 ?_
      obtain ⟨m3, hm3, h⟩ := jpu_some h
      refine J.putI hG d_M_text_27 fl_M_135 fp_10_2 ck_109_2 hm3 ?_
      refine J.aload_n 0 d_M_text_30 rfl rfl ?_
      refine J.iconst (v := (0 : Int32)) d_M_text_31 ki_0 ?_
      refine J.nop (pc' := 32) rfl ?_
      obtain ⟨m4, hm4, h⟩ := jpu_some h
      refine J.putI hG d_M_text_32 fl_M_138 fp_10_17 ck_109_17 hm4 ?_
      refine J.aload_n 0 d_M_text_35 rfl rfl ?_
      refine J.iconst (v := (0 : Int32)) d_M_text_36 ki_0 ?_
      obtain ⟨m5, hm5, h⟩ := jpu_some h
      refine J.putI hG d_M_text_37 fl_M_178 fp_10_21 ck_109_21 hm5 ?_
      refine J.aload_n 0 d_M_text_40 rfl rfl ?_
      refine J.iconst (v := (-1 : Int32)) d_M_text_41 ki_m1 ?_
      obtain ⟨m6, hm6, h⟩ := jpu_some h
      refine J.putI hG d_M_text_42 fl_M_181 fp_10_22 ck_109_22 hm6 ?_
      refine J.aload_n 0 d_M_text_45 rfl rfl ?_
      refine J.nop (pc' := 46) rfl ?_
      refine J.iconst (v := (0 : Int32)) d_M_text_46 ki_0 ?_
      obtain ⟨m7, hm7, h⟩ := jpu_some h
      refine J.putI hG d_M_text_47 fl_M_220 fp_10_7 ck_109_7 hm7 ?_
      refine J.aload_n 0 d_M_text_50 rfl rfl ?_
      refine J.iconst (v := (0 : Int32)) d_M_text_51 ki_0 ?_
      obtain ⟨m8, hm8, h⟩ := jpu_some h
      refine J.putI hG d_M_text_52 fl_M_214 fp_10_5 ck_109_5 hm8 ?_
      refine J.aload_n 0 d_M_text_55 rfl rfl ?_
      refine J.iconst (v := (0 : Int32)) d_M_text_56 ki_0 ?_
      obtain ⟨m9, hm9, h⟩ := jpu_some h
      refine J.putI hG d_M_text_57 fl_M_191 fp_10_12 ck_109_12 hm9 ?_
      refine J.nop (pc' := 60) rfl ?_
      refine J.aload_n 0 d_M_text_60 rfl rfl ?_
      refine J.iconst (v := (0 : Int32)) d_M_text_61 ki_0 ?_
      obtain ⟨m10, hm10, h⟩ := jpu_some h
      refine J.putI hG d_M_text_62 fl_M_207 fp_10_14 ck_109_14 hm10 ?_
      refine J.aload_n 0 d_M_text_65 rfl rfl ?_
      refine J.iconst (v := (0 : Int32)) d_M_text_66 ki_0 ?_
      obtain ⟨m11, hm11, h⟩ := jpu_some h
      refine J.putI hG d_M_text_67 fl_M_204 fp_10_15 ck_109_15 hm11 ?_
      refine J.aload_n 0 d_M_text_70 rfl rfl ?_
      refine J.getF (n := 115) hG d_M_text_71 fl_M_26 ck_109_10 rfl ?_
      refine J.nop (pc' := 74) rfl ?_
      refine J.bipush (v := (9 : Int32)) d_M_text_74 kb_9 ?_
      refine J.iconst (v := (0 : Int32)) d_M_text_76 ki_0 ?_
      obtain ⟨m12, hm12, g, h⟩ := jst_some h
      refine J.is hG d_M_text_77 g hm12 ?_
      refine J.iconst (v := (0 : Int32)) d_M_text_78 ki_0 ?_
      refine J.istore_n (lv := [(2, .int (0 : Int32)), (0, jr G 109), (1, .int v1)]) d_M_text_79 rfl (by decide) rfl ?_
      refine J.sub (ls' := [(0, jr G 109), (2, .int (0 : Int32))]) [1, 0] rfl ?_
      refine jlp_M_text_80 hG _ ?_ _ (0 : Int32) m12 _ h
      intro m14 r h
      refine J.aload_n 0 d_M_text_102 rfl rfl ?_
      obtain ⟨u15, m16, zm16, h⟩ := jbd_some h
      refine J.cVv Y_M_next (As := []) (rest := []) hG d_M_text_103 mi_M_next mv_M_next lk_M_188 ⟨rfl, rfl, Nat.le_of_ble_eq_true rfl⟩ cq_109 cc_10 (c_M_next hG zm16) rfl (Nat.le_trans jcN (Nat.le_of_ble_eq_true rfl)) ?_
      refine J.sub (ls' := [(0, jr G 109)]) [0] rfl ?_
      refine jlp_M_text_106 hG _ ?_ _ m16 _ h
      intro m19 r h
      refine J.aload_n 0 d_M_text_128 rfl rfl ?_
      refine J.aload_n 0 d_M_text_129 rfl rfl ?_
      refine J.getI hG d_M_text_130 fl_M_178 ck_109_21 ?_
      obtain ⟨m20, hm20, h⟩ := jpu_some h
      refine J.putI hG d_M_text_133 fl_M_258 fp_10_23 ck_109_23 hm20 ?_
      refine J.aload_n 0 d_M_text_136 rfl rfl ?_
      refine J.aload_n 0 d_M_text_137 rfl rfl ?_
      refine J.getI hG d_M_text_138 fl_M_181 ck_109_22 ?_
      obtain ⟨m21, hm21, h⟩ := jpu_some h
      refine J.putI hG d_M_text_141 fl_M_32 fp_10_24 ck_109_24 hm21 ?_
      refine J.nop (pc' := 144) rfl ?_
      refine J.aload_n 0 d_M_text_144 rfl rfl ?_
      refine J.getI hG d_M_text_145 fl_M_178 ck_109_21 ?_
      refine J.if_eq 153 d_M_text_148 rfl (fun c => ?_) (fun c => ?_)
      · rw [if_pos c] at h
        refine J.iconst (v := (0 : Int32)) d_M_text_153 ki_0 ?_
        refine J.istore_n (lv := [(2, .int (0 : Int32)), (0, jr G 109)]) d_M_text_154 rfl (by decide) rfl ?_
        refine J.sub (ls' := [(0, jr G 109), (2, .int (0 : Int32))]) [1, 0] rfl ?_
        refine jlp_M_text_155 hG _ ?_ _ (0 : Int32) m21 _ h
        intro m26 r h
        refine J.iconst (v := (0 : Int32)) d_M_text_197 ki_0 ?_
        refine J.istore_n (lv := [(2, .int (0 : Int32)), (0, jr G 109)]) d_M_text_198 rfl (by decide) rfl ?_
        refine J.sub (ls' := [(0, jr G 109), (2, .int (0 : Int32))]) [1, 0] rfl ?_
        refine jlp_M_text_199 hG _ ?_ _ (0 : Int32) m26 _ h
        intro m33 r h
        refine J.iconst (v := (0 : Int32)) d_M_text_256 ki_0 ?_
        refine J.istore_n (lv := [(2, .int (0 : Int32)), (0, jr G 109)]) d_M_text_257 rfl (by decide) rfl ?_
        refine J.sub (ls' := [(0, jr G 109), (2, .int (0 : Int32))]) [1, 0] rfl ?_
        refine jlp_M_text_258 hG _ ?_ _ (0 : Int32) m33 _ h
        intro m36 r h
        refine J.aload_n 0 d_M_text_285 rfl rfl ?_
        refine J.aload_n 0 d_M_text_286 rfl rfl ?_
        refine J.getI hG d_M_text_287 fl_M_191 ck_109_12 ?_
        obtain ⟨m37, hm37, h⟩ := jpu_some h
        refine J.putI hG d_M_text_290 fl_M_261 fp_10_11 ck_109_11 hm37 ?_
        refine J.aload_n 0 d_M_text_293 rfl rfl ?_
        refine J.aload_n 0 d_M_text_294 rfl rfl ?_
        refine J.getI hG d_M_text_295 fl_M_220 ck_109_7 ?_
        obtain ⟨m38, hm38, h⟩ := jpu_some h
        refine J.putI hG d_M_text_298 fl_M_264 fp_10_6 ck_109_6 hm38 ?_
        refine J.nop (pc' := 301) rfl ?_
        refine J.aload_n 0 d_M_text_301 rfl rfl ?_
        refine J.getI hG d_M_text_302 fl_M_204 ck_109_15 ?_
        cases h
        exact J.iret d_M_text_305 rfl (vp_nar_int _) rfl
      · rw [if_neg c] at h
        refine J.iconst (v := (-1 : Int32)) d_M_text_151 ki_m1 ?_
        cases h
        exact J.iret d_M_text_152 rfl (vp_nar_int _) rfl
    · rw [if_neg c] at h
      refine J.bipush (v := (-2 : Int32)) d_M_text_17 kb_m2 ?_
      cases h
      exact J.iret d_M_text_19 rfl (vp_nar_int _) rfl

def f_M_fault (v1 : Int32) (m : jMem) : Option (Int32 × jMem) :=
  jpu m 109 0 (0 : Int32) fun m1 =>
  if v1 = 0 then
    some ((m1 109 23), m1)
  else
    if v1 = (1 : Int32) then
      some ((m1 109 24), m1)
    else
      some ((-1 : Int32), m1)
theorem c_M_fault {G : jG} (hG : jFul G) {v1 : Int32} {m : jMem} {r : (Int32 × jMem)} (h : f_M_fault v1 m = some r) : jCt G Y_M_fault [jr G 109, .int v1] m (jri r) := by
  refine jCt.ov (ls := [(0, jr G 109), (1, .int v1)]) mi_M_fault (jAvR (jAvI jAvN)) (Nat.le_of_ble_eq_true rfl) ?_ ⟨rfl, rfl⟩
  unfold f_M_fault at h
  refine J.aload_n 0 d_M_fault_0 rfl rfl ?_
  refine J.iconst (v := (0 : Int32)) d_M_fault_1 ki_0 ?_
  obtain ⟨m1, hm1, h⟩ := jpu_some h
  refine J.putI hG d_M_fault_2 fl_M_132 fp_10_0 ck_109_0 hm1 ?_
  refine J.iload_n 1 d_M_fault_5 rfl rfl ?_
  refine J.if_ne 16 d_M_fault_6 rfl (fun c => ?_) (fun c => ?_)
  · rw [if_neg c] at h
    refine J.iload_n 1 d_M_fault_16 rfl rfl ?_
    refine J.iconst (v := (1 : Int32)) d_M_fault_17 ki_1 ?_
    refine J.icmp_ne 28 d_M_fault_18 rfl (fun c => ?_) (fun c => ?_)
    · rw [if_neg c] at h
      refine J.iconst (v := (-1 : Int32)) d_M_fault_28 ki_m1 ?_
      cases h
      exact J.iret d_M_fault_29 rfl (vp_nar_int _) rfl
    · rw [if_pos c] at h
      refine J.aload_n 0 d_M_fault_21 rfl rfl ?_
      refine J.getI hG d_M_fault_22 fl_M_32 ck_109_24 ?_
      refine J.goto 29 d_M_fault_25 rfl ?_
      cases h
      exact J.iret d_M_fault_29 rfl (vp_nar_int _) rfl
  · rw [if_pos c] at h
    refine J.aload_n 0 d_M_fault_9 rfl rfl ?_
    refine J.getI hG d_M_fault_10 fl_M_258 ck_109_23 ?_
    refine J.goto 29 d_M_fault_13 rfl ?_
    cases h
    exact J.iret d_M_fault_29 rfl (vp_nar_int _) rfl

def f_M_is (v0 : Int32) (m : jMem) : Option (Int32 × jMem) :=
  if v0 = 0 then
    some ((0 : Int32), m)
  else
    some ((1 : Int32), m)
theorem c_M_is {G : jG} (hG : jFul G) {v0 : Int32} {m : jMem} {r : (Int32 × jMem)} (h : f_M_is v0 m = some r) : jCt G Y_M_is [.int v0] m (jri r) := by
  refine jCt.ov (ls := [(0, .int v0)]) mi_M_is (jAvI jAvN) (Nat.le_of_ble_eq_true rfl) ?_ ⟨rfl, rfl⟩
  unfold f_M_is at h
  refine J.iload_n 0 d_M_is_0 rfl rfl ?_
  refine J.if_eq 8 d_M_is_1 rfl (fun c => ?_) (fun c => ?_)
  · rw [if_pos c] at h
    refine J.iconst (v := (0 : Int32)) d_M_is_8 ki_0 ?_
    cases h
    exact J.iret d_M_is_9 rfl (vp_nar_int _) rfl
  · rw [if_neg c] at h
    refine J.iconst (v := (1 : Int32)) d_M_is_4 ki_1 ?_
    refine J.goto 9 d_M_is_5 rfl ?_
    cases h
    exact J.iret d_M_is_9 rfl (vp_nar_int _) rfl

def f_M_does (v1 : Int32) (m : jMem) : Option (Unit × jMem) :=
  if v1 = (260 : Int32) then
    jld 1 m 119 ((m 109 30) - (1 : Int32)) fun x60 =>
    if x60 = 0 then
      jbd (f_M_is (1 : Int32) m) fun x64 m65 =>
      jst 1 m65 119 ((m 109 30) - (1 : Int32)) x64 fun m66 =>
      some ((), m66)
    else
      jbd (f_M_is (0 : Int32) m) fun x61 m62 =>
      jst 1 m62 119 ((m 109 30) - (1 : Int32)) x61 fun m63 =>
      some ((), m63)
  else
    jpu m 109 30 ((m 109 30) - (1 : Int32)) fun m1 =>
    jld 1 m1 119 ((m1 109 30) - (1 : Int32)) fun x2 =>
    jld 1 m1 119 (m1 109 30) fun x3 =>
    if v1 = (262 : Int32) then
      if x2 = 0 then
        if x3 = 0 then
          jbd (f_M_is (0 : Int32) m1) fun x54 m55 =>
          jst 1 m55 119 ((m1 109 30) - (1 : Int32)) x54 fun m56 =>
          some ((), m56)
        else
          jbd (f_M_is (1 : Int32) m1) fun x57 m58 =>
          jst 1 m58 119 ((m1 109 30) - (1 : Int32)) x57 fun m59 =>
          some ((), m59)
      else
        jbd (f_M_is (1 : Int32) m1) fun x51 m52 =>
        jst 1 m52 119 ((m1 109 30) - (1 : Int32)) x51 fun m53 =>
        some ((), m53)
    else
      if v1 = (261 : Int32) then
        if x2 = 0 then
          jbd (f_M_is (0 : Int32) m1) fun x42 m43 =>
          jst 1 m43 119 ((m1 109 30) - (1 : Int32)) x42 fun m44 =>
          some ((), m44)
        else
          if x3 = 0 then
            jbd (f_M_is (0 : Int32) m1) fun x45 m46 =>
            jst 1 m46 119 ((m1 109 30) - (1 : Int32)) x45 fun m47 =>
            some ((), m47)
          else
            jbd (f_M_is (1 : Int32) m1) fun x48 m49 =>
            jst 1 m49 119 ((m1 109 30) - (1 : Int32)) x48 fun m50 =>
            some ((), m50)
      else
        if v1 = (60 : Int32) then
          if x3 ≤ x2 then
            jbd (f_M_is (0 : Int32) m1) fun x36 m37 =>
            jst 1 m37 119 ((m1 109 30) - (1 : Int32)) x36 fun m38 =>
            some ((), m38)
          else
            jbd (f_M_is (1 : Int32) m1) fun x39 m40 =>
            jst 1 m40 119 ((m1 109 30) - (1 : Int32)) x39 fun m41 =>
            some ((), m41)
        else
          if v1 = (256 : Int32) then
            if x3 < x2 then
              jbd (f_M_is (0 : Int32) m1) fun x30 m31 =>
              jst 1 m31 119 ((m1 109 30) - (1 : Int32)) x30 fun m32 =>
              some ((), m32)
            else
              jbd (f_M_is (1 : Int32) m1) fun x33 m34 =>
              jst 1 m34 119 ((m1 109 30) - (1 : Int32)) x33 fun m35 =>
              some ((), m35)
          else
            if v1 = (61 : Int32) then
              if x2 = x3 then
                jbd (f_M_is (1 : Int32) m1) fun x27 m28 =>
                jst 1 m28 119 ((m1 109 30) - (1 : Int32)) x27 fun m29 =>
                some ((), m29)
              else
                jbd (f_M_is (0 : Int32) m1) fun x24 m25 =>
                jst 1 m25 119 ((m1 109 30) - (1 : Int32)) x24 fun m26 =>
                some ((), m26)
            else
              if v1 = (257 : Int32) then
                if x2 = x3 then
                  jbd (f_M_is (0 : Int32) m1) fun x18 m19 =>
                  jst 1 m19 119 ((m1 109 30) - (1 : Int32)) x18 fun m20 =>
                  some ((), m20)
                else
                  jbd (f_M_is (1 : Int32) m1) fun x21 m22 =>
                  jst 1 m22 119 ((m1 109 30) - (1 : Int32)) x21 fun m23 =>
                  some ((), m23)
              else
                if v1 = (258 : Int32) then
                  if x2 < x3 then
                    jbd (f_M_is (0 : Int32) m1) fun x12 m13 =>
                    jst 1 m13 119 ((m1 109 30) - (1 : Int32)) x12 fun m14 =>
                    some ((), m14)
                  else
                    jbd (f_M_is (1 : Int32) m1) fun x15 m16 =>
                    jst 1 m16 119 ((m1 109 30) - (1 : Int32)) x15 fun m17 =>
                    some ((), m17)
                else
                  if v1 = (62 : Int32) then
                    if x2 ≤ x3 then
                      jbd (f_M_is (0 : Int32) m1) fun x6 m7 =>
                      jst 1 m7 119 ((m1 109 30) - (1 : Int32)) x6 fun m8 =>
                      some ((), m8)
                    else
                      jbd (f_M_is (1 : Int32) m1) fun x9 m10 =>
                      jst 1 m10 119 ((m1 109 30) - (1 : Int32)) x9 fun m11 =>
                      some ((), m11)
                  else
                    if v1 = (43 : Int32) then
                      jst 1 m1 119 ((m1 109 30) - (1 : Int32)) (x2 + x3) fun m5 =>
                      some ((), m5)
                    else
                      jst 1 m1 119 ((m1 109 30) - (1 : Int32)) (x2 - x3) fun m4 =>
                      some ((), m4)
theorem c_M_does {G : jG} (hG : jFul G) {v1 : Int32} {m : jMem} {r : (Unit × jMem)} (h : f_M_does v1 m = some r) : jCt G Y_M_does [jr G 109, .int v1] m (jrv r) := by
  refine jCt.ov (ls := [(0, jr G 109), (1, .int v1)]) mi_M_does (jAvR (jAvI jAvN)) (Nat.le_of_ble_eq_true rfl) ?_ ⟨rfl, rfl⟩
  unfold f_M_does at h
  refine J.iload_n 1 d_M_does_0 rfl rfl ?_
  refine J.sipush (v := (260 : Int32)) d_M_does_1 ks_260 ?_
  refine J.icmp_ne 41 d_M_does_4 rfl (fun c => ?_) (fun c => ?_)
  · rw [if_neg c] at h
    refine J.aload_n 0 d_M_does_41 rfl rfl ?_
    refine J.dup d_M_does_42 (jr_cat _ _) ?_
    refine J.getI hG d_M_does_43 fl_M_267 ck_109_30 ?_
    refine J.iconst (v := (1 : Int32)) d_M_does_46 ki_1 ?_
    refine J.isub d_M_does_47 ?_
    obtain ⟨m1, hm1, h⟩ := jpu_some h
    refine J.putI hG d_M_does_48 fl_M_267 fp_10_30 ck_109_30 hm1 ?_
    refine J.aload_n 0 d_M_does_51 rfl rfl ?_
    refine J.getF (n := 119) hG d_M_does_52 fl_M_42 ck_109_29 rfl ?_
    refine J.nop (pc' := 55) rfl ?_
    refine J.aload_n 0 d_M_does_55 rfl rfl ?_
    refine J.getI hG d_M_does_56 fl_M_267 ck_109_30 ?_
    refine J.iconst (v := (1 : Int32)) d_M_does_59 ki_1 ?_
    refine J.isub d_M_does_60 ?_
    obtain ⟨x2, ex2, g, h⟩ := jld_some h
    refine J.il hG d_M_does_61 g ex2 ?_
    refine J.istore_n (lv := [(2, .int x2), (0, jr G 109), (1, .int v1)]) d_M_does_62 rfl (by decide) rfl ?_
    refine J.aload_n 1 d_M_does_63 rfl rfl ?_
    refine J.getF (n := 119) hG d_M_does_64 fl_M_42 ck_109_29 rfl ?_
    refine J.nop (pc' := 67) rfl ?_
    refine J.aload_n 1 d_M_does_67 rfl rfl ?_
    refine J.getI hG d_M_does_68 fl_M_267 ck_109_30 ?_
    obtain ⟨x3, ex3, g, h⟩ := jld_some h
    refine J.il hG d_M_does_71 g ex3 ?_
    refine J.istore_n (lv := [(3, .int x3), (2, .int x2), (0, jr G 109), (1, .int v1)]) d_M_does_72 rfl (by decide) rfl ?_
    refine J.aload_n 2 d_M_does_73 rfl rfl ?_
    refine J.getF (n := 119) hG d_M_does_74 fl_M_42 ck_109_29 rfl ?_
    refine J.aload_n 2 d_M_does_77 rfl rfl ?_
    refine J.getI hG d_M_does_78 fl_M_267 ck_109_30 ?_
    refine J.nop (pc' := 81) rfl ?_
    refine J.iconst (v := (1 : Int32)) d_M_does_81 ki_1 ?_
    refine J.isub d_M_does_82 ?_
    refine J.iload_n 3 d_M_does_83 rfl rfl ?_
    refine J.sipush (v := (262 : Int32)) d_M_does_84 ks_262 ?_
    refine J.icmp_ne 109 d_M_does_87 rfl (fun c => ?_) (fun c => ?_)
    · rw [if_neg c] at h
      refine J.iload_n 3 d_M_does_109 rfl rfl ?_
      refine J.sipush (v := (261 : Int32)) d_M_does_110 ks_261 ?_
      refine J.icmp_ne 135 d_M_does_113 rfl (fun c => ?_) (fun c => ?_)
      · rw [if_neg c] at h
        refine J.iload_n 3 d_M_does_135 rfl rfl ?_
        refine J.bipush (v := (60 : Int32)) d_M_does_136 kb_60 ?_
        refine J.icmp_ne 157 d_M_does_138 rfl (fun c => ?_) (fun c => ?_)
        · rw [if_neg c] at h
          refine J.iload_n 3 d_M_does_157 rfl rfl ?_
          refine J.sipush (v := (256 : Int32)) d_M_does_158 ks_256 ?_
          refine J.icmp_ne 180 d_M_does_161 rfl (fun c => ?_) (fun c => ?_)
          · rw [if_neg c] at h
            refine J.iload_n 3 d_M_does_180 rfl rfl ?_
            refine J.bipush (v := (61 : Int32)) d_M_does_181 kb_61 ?_
            refine J.icmp_ne 202 d_M_does_183 rfl (fun c => ?_) (fun c => ?_)
            · rw [if_neg c] at h
              refine J.iload_n 3 d_M_does_202 rfl rfl ?_
              refine J.sipush (v := (257 : Int32)) d_M_does_203 ks_257 ?_
              refine J.icmp_ne 225 d_M_does_206 rfl (fun c => ?_) (fun c => ?_)
              · rw [if_neg c] at h
                refine J.iload_n 3 d_M_does_225 rfl rfl ?_
                refine J.sipush (v := (258 : Int32)) d_M_does_226 ks_258 ?_
                refine J.icmp_ne 248 d_M_does_229 rfl (fun c => ?_) (fun c => ?_)
                · rw [if_neg c] at h
                  refine J.iload_n 3 d_M_does_248 rfl rfl ?_
                  refine J.bipush (v := (62 : Int32)) d_M_does_249 kb_62 ?_
                  refine J.icmp_ne 270 d_M_does_251 rfl (fun c => ?_) (fun c => ?_)
                  · rw [if_neg c] at h
                    refine J.iload_n 3 d_M_does_270 rfl rfl ?_
                    refine J.bipush (v := (43 : Int32)) d_M_does_271 kb_43 ?_
                    refine J.icmp_ne 282 d_M_does_273 rfl (fun c => ?_) (fun c => ?_)
                    · rw [if_neg c] at h
                      refine J.iload_n 1 d_M_does_282 rfl rfl ?_
                      refine J.iload_n 0 d_M_does_283 rfl rfl ?_
                      refine J.isub d_M_does_284 ?_
                      obtain ⟨m4, hm4, g, h⟩ := jst_some h
                      refine J.is hG d_M_does_285 g hm4 ?_
                      cases h
                      exact J.vret d_M_does_286 rfl rfl
                    · rw [if_pos c] at h
                      refine J.iload_n 1 d_M_does_276 rfl rfl ?_
                      refine J.iload_n 0 d_M_does_277 rfl rfl ?_
                      refine J.iadd d_M_does_278 ?_
                      refine J.goto 285 d_M_does_279 rfl ?_
                      obtain ⟨m5, hm5, g, h⟩ := jst_some h
                      refine J.is hG d_M_does_285 g hm5 ?_
                      cases h
                      exact J.vret d_M_does_286 rfl rfl
                  · rw [if_pos c] at h
                    refine J.iload_n 1 d_M_does_254 rfl rfl ?_
                    refine J.iload_n 0 d_M_does_255 rfl rfl ?_
                    refine J.icmp_le 263 d_M_does_256 rfl (fun c => ?_) (fun c => ?_)
                    · rw [if_pos c] at h
                      refine J.iconst (v := (0 : Int32)) d_M_does_263 ki_0 ?_
                      obtain ⟨x6, m7, zm7, h⟩ := jbd_some h
                      refine J.cSi Y_M_is (As := [.int (0 : Int32)]) (rest := [.int ((m1 109 30) - (1 : Int32)), jr G 119]) d_M_does_264 mi_M_is ms_M_is lk_M_270 ⟨rfl, rfl, Nat.le_of_ble_eq_true rfl⟩ (c_M_is hG zm7) rfl (Nat.le_trans (jcI (jcR jcN)) (Nat.le_of_ble_eq_true rfl)) ?_
                      refine J.goto 285 d_M_does_267 rfl ?_
                      obtain ⟨m8, hm8, g, h⟩ := jst_some h
                      refine J.is hG d_M_does_285 g hm8 ?_
                      cases h
                      exact J.vret d_M_does_286 rfl rfl
                    · rw [if_neg c] at h
                      refine J.iconst (v := (1 : Int32)) d_M_does_259 ki_1 ?_
                      refine J.goto 264 d_M_does_260 rfl ?_
                      obtain ⟨x9, m10, zm10, h⟩ := jbd_some h
                      refine J.cSi Y_M_is (As := [.int (1 : Int32)]) (rest := [.int ((m1 109 30) - (1 : Int32)), jr G 119]) d_M_does_264 mi_M_is ms_M_is lk_M_270 ⟨rfl, rfl, Nat.le_of_ble_eq_true rfl⟩ (c_M_is hG zm10) rfl (Nat.le_trans (jcI (jcR jcN)) (Nat.le_of_ble_eq_true rfl)) ?_
                      refine J.goto 285 d_M_does_267 rfl ?_
                      obtain ⟨m11, hm11, g, h⟩ := jst_some h
                      refine J.is hG d_M_does_285 g hm11 ?_
                      cases h
                      exact J.vret d_M_does_286 rfl rfl
                · rw [if_pos c] at h
                  refine J.iload_n 1 d_M_does_232 rfl rfl ?_
                  refine J.iload_n 0 d_M_does_233 rfl rfl ?_
                  refine J.icmp_lt 241 d_M_does_234 rfl (fun c => ?_) (fun c => ?_)
                  · rw [if_pos c] at h
                    refine J.iconst (v := (0 : Int32)) d_M_does_241 ki_0 ?_
                    obtain ⟨x12, m13, zm13, h⟩ := jbd_some h
                    refine J.cSi Y_M_is (As := [.int (0 : Int32)]) (rest := [.int ((m1 109 30) - (1 : Int32)), jr G 119]) d_M_does_242 mi_M_is ms_M_is lk_M_270 ⟨rfl, rfl, Nat.le_of_ble_eq_true rfl⟩ (c_M_is hG zm13) rfl (Nat.le_trans (jcI (jcR jcN)) (Nat.le_of_ble_eq_true rfl)) ?_
                    refine J.goto 285 d_M_does_245 rfl ?_
                    obtain ⟨m14, hm14, g, h⟩ := jst_some h
                    refine J.is hG d_M_does_285 g hm14 ?_
                    cases h
                    exact J.vret d_M_does_286 rfl rfl
                  · rw [if_neg c] at h
                    refine J.iconst (v := (1 : Int32)) d_M_does_237 ki_1 ?_
                    refine J.goto 242 d_M_does_238 rfl ?_
                    obtain ⟨x15, m16, zm16, h⟩ := jbd_some h
                    refine J.cSi Y_M_is (As := [.int (1 : Int32)]) (rest := [.int ((m1 109 30) - (1 : Int32)), jr G 119]) d_M_does_242 mi_M_is ms_M_is lk_M_270 ⟨rfl, rfl, Nat.le_of_ble_eq_true rfl⟩ (c_M_is hG zm16) rfl (Nat.le_trans (jcI (jcR jcN)) (Nat.le_of_ble_eq_true rfl)) ?_
                    refine J.goto 285 d_M_does_245 rfl ?_
                    obtain ⟨m17, hm17, g, h⟩ := jst_some h
                    refine J.is hG d_M_does_285 g hm17 ?_
                    cases h
                    exact J.vret d_M_does_286 rfl rfl
              · rw [if_pos c] at h
                refine J.iload_n 1 d_M_does_209 rfl rfl ?_
                refine J.iload_n 0 d_M_does_210 rfl rfl ?_
                refine J.icmp_eq 218 d_M_does_211 rfl (fun c => ?_) (fun c => ?_)
                · rw [if_pos c] at h
                  refine J.iconst (v := (0 : Int32)) d_M_does_218 ki_0 ?_
                  obtain ⟨x18, m19, zm19, h⟩ := jbd_some h
                  refine J.cSi Y_M_is (As := [.int (0 : Int32)]) (rest := [.int ((m1 109 30) - (1 : Int32)), jr G 119]) d_M_does_219 mi_M_is ms_M_is lk_M_270 ⟨rfl, rfl, Nat.le_of_ble_eq_true rfl⟩ (c_M_is hG zm19) rfl (Nat.le_trans (jcI (jcR jcN)) (Nat.le_of_ble_eq_true rfl)) ?_
                  refine J.goto 285 d_M_does_222 rfl ?_
                  obtain ⟨m20, hm20, g, h⟩ := jst_some h
                  refine J.is hG d_M_does_285 g hm20 ?_
                  cases h
                  exact J.vret d_M_does_286 rfl rfl
                · rw [if_neg c] at h
                  refine J.iconst (v := (1 : Int32)) d_M_does_214 ki_1 ?_
                  refine J.goto 219 d_M_does_215 rfl ?_
                  obtain ⟨x21, m22, zm22, h⟩ := jbd_some h
                  refine J.cSi Y_M_is (As := [.int (1 : Int32)]) (rest := [.int ((m1 109 30) - (1 : Int32)), jr G 119]) d_M_does_219 mi_M_is ms_M_is lk_M_270 ⟨rfl, rfl, Nat.le_of_ble_eq_true rfl⟩ (c_M_is hG zm22) rfl (Nat.le_trans (jcI (jcR jcN)) (Nat.le_of_ble_eq_true rfl)) ?_
                  refine J.goto 285 d_M_does_222 rfl ?_
                  obtain ⟨m23, hm23, g, h⟩ := jst_some h
                  refine J.is hG d_M_does_285 g hm23 ?_
                  cases h
                  exact J.vret d_M_does_286 rfl rfl
            · rw [if_pos c] at h
              refine J.iload_n 1 d_M_does_186 rfl rfl ?_
              refine J.iload_n 0 d_M_does_187 rfl rfl ?_
              refine J.icmp_ne 195 d_M_does_188 rfl (fun c => ?_) (fun c => ?_)
              · rw [if_neg c] at h
                refine J.iconst (v := (0 : Int32)) d_M_does_195 ki_0 ?_
                obtain ⟨x24, m25, zm25, h⟩ := jbd_some h
                refine J.cSi Y_M_is (As := [.int (0 : Int32)]) (rest := [.int ((m1 109 30) - (1 : Int32)), jr G 119]) d_M_does_196 mi_M_is ms_M_is lk_M_270 ⟨rfl, rfl, Nat.le_of_ble_eq_true rfl⟩ (c_M_is hG zm25) rfl (Nat.le_trans (jcI (jcR jcN)) (Nat.le_of_ble_eq_true rfl)) ?_
                refine J.goto 285 d_M_does_199 rfl ?_
                obtain ⟨m26, hm26, g, h⟩ := jst_some h
                refine J.is hG d_M_does_285 g hm26 ?_
                cases h
                exact J.vret d_M_does_286 rfl rfl
              · rw [if_pos c] at h
                refine J.iconst (v := (1 : Int32)) d_M_does_191 ki_1 ?_
                refine J.goto 196 d_M_does_192 rfl ?_
                obtain ⟨x27, m28, zm28, h⟩ := jbd_some h
                refine J.cSi Y_M_is (As := [.int (1 : Int32)]) (rest := [.int ((m1 109 30) - (1 : Int32)), jr G 119]) d_M_does_196 mi_M_is ms_M_is lk_M_270 ⟨rfl, rfl, Nat.le_of_ble_eq_true rfl⟩ (c_M_is hG zm28) rfl (Nat.le_trans (jcI (jcR jcN)) (Nat.le_of_ble_eq_true rfl)) ?_
                refine J.goto 285 d_M_does_199 rfl ?_
                obtain ⟨m29, hm29, g, h⟩ := jst_some h
                refine J.is hG d_M_does_285 g hm29 ?_
                cases h
                exact J.vret d_M_does_286 rfl rfl
          · rw [if_pos c] at h
            refine J.iload_n 1 d_M_does_164 rfl rfl ?_
            refine J.iload_n 0 d_M_does_165 rfl rfl ?_
            refine J.icmp_gt 173 d_M_does_166 rfl (fun c => ?_) (fun c => ?_)
            · rw [if_pos c] at h
              refine J.iconst (v := (0 : Int32)) d_M_does_173 ki_0 ?_
              obtain ⟨x30, m31, zm31, h⟩ := jbd_some h
              refine J.cSi Y_M_is (As := [.int (0 : Int32)]) (rest := [.int ((m1 109 30) - (1 : Int32)), jr G 119]) d_M_does_174 mi_M_is ms_M_is lk_M_270 ⟨rfl, rfl, Nat.le_of_ble_eq_true rfl⟩ (c_M_is hG zm31) rfl (Nat.le_trans (jcI (jcR jcN)) (Nat.le_of_ble_eq_true rfl)) ?_
              refine J.goto 285 d_M_does_177 rfl ?_
              obtain ⟨m32, hm32, g, h⟩ := jst_some h
              refine J.is hG d_M_does_285 g hm32 ?_
              cases h
              exact J.vret d_M_does_286 rfl rfl
            · rw [if_neg c] at h
              refine J.iconst (v := (1 : Int32)) d_M_does_169 ki_1 ?_
              refine J.goto 174 d_M_does_170 rfl ?_
              obtain ⟨x33, m34, zm34, h⟩ := jbd_some h
              refine J.cSi Y_M_is (As := [.int (1 : Int32)]) (rest := [.int ((m1 109 30) - (1 : Int32)), jr G 119]) d_M_does_174 mi_M_is ms_M_is lk_M_270 ⟨rfl, rfl, Nat.le_of_ble_eq_true rfl⟩ (c_M_is hG zm34) rfl (Nat.le_trans (jcI (jcR jcN)) (Nat.le_of_ble_eq_true rfl)) ?_
              refine J.goto 285 d_M_does_177 rfl ?_
              obtain ⟨m35, hm35, g, h⟩ := jst_some h
              refine J.is hG d_M_does_285 g hm35 ?_
              cases h
              exact J.vret d_M_does_286 rfl rfl
        · rw [if_pos c] at h
          refine J.iload_n 1 d_M_does_141 rfl rfl ?_
          refine J.iload_n 0 d_M_does_142 rfl rfl ?_
          refine J.icmp_ge 150 d_M_does_143 rfl (fun c => ?_) (fun c => ?_)
          · rw [if_pos c] at h
            refine J.iconst (v := (0 : Int32)) d_M_does_150 ki_0 ?_
            obtain ⟨x36, m37, zm37, h⟩ := jbd_some h
            refine J.cSi Y_M_is (As := [.int (0 : Int32)]) (rest := [.int ((m1 109 30) - (1 : Int32)), jr G 119]) d_M_does_151 mi_M_is ms_M_is lk_M_270 ⟨rfl, rfl, Nat.le_of_ble_eq_true rfl⟩ (c_M_is hG zm37) rfl (Nat.le_trans (jcI (jcR jcN)) (Nat.le_of_ble_eq_true rfl)) ?_
            refine J.goto 285 d_M_does_154 rfl ?_
            obtain ⟨m38, hm38, g, h⟩ := jst_some h
            refine J.is hG d_M_does_285 g hm38 ?_
            cases h
            exact J.vret d_M_does_286 rfl rfl
          · rw [if_neg c] at h
            refine J.iconst (v := (1 : Int32)) d_M_does_146 ki_1 ?_
            refine J.goto 151 d_M_does_147 rfl ?_
            obtain ⟨x39, m40, zm40, h⟩ := jbd_some h
            refine J.cSi Y_M_is (As := [.int (1 : Int32)]) (rest := [.int ((m1 109 30) - (1 : Int32)), jr G 119]) d_M_does_151 mi_M_is ms_M_is lk_M_270 ⟨rfl, rfl, Nat.le_of_ble_eq_true rfl⟩ (c_M_is hG zm40) rfl (Nat.le_trans (jcI (jcR jcN)) (Nat.le_of_ble_eq_true rfl)) ?_
            refine J.goto 285 d_M_does_154 rfl ?_
            obtain ⟨m41, hm41, g, h⟩ := jst_some h
            refine J.is hG d_M_does_285 g hm41 ?_
            cases h
            exact J.vret d_M_does_286 rfl rfl
      · rw [if_pos c] at h
        refine J.iload_n 1 d_M_does_116 rfl rfl ?_
        refine J.if_eq 128 d_M_does_117 rfl (fun c => ?_) (fun c => ?_)
        · rw [if_pos c] at h
          refine J.iconst (v := (0 : Int32)) d_M_does_128 ki_0 ?_
          obtain ⟨x42, m43, zm43, h⟩ := jbd_some h
          refine J.cSi Y_M_is (As := [.int (0 : Int32)]) (rest := [.int ((m1 109 30) - (1 : Int32)), jr G 119]) d_M_does_129 mi_M_is ms_M_is lk_M_270 ⟨rfl, rfl, Nat.le_of_ble_eq_true rfl⟩ (c_M_is hG zm43) rfl (Nat.le_trans (jcI (jcR jcN)) (Nat.le_of_ble_eq_true rfl)) ?_
          refine J.goto 285 d_M_does_132 rfl ?_
          obtain ⟨m44, hm44, g, h⟩ := jst_some h
          refine J.is hG d_M_does_285 g hm44 ?_
          cases h
          exact J.vret d_M_does_286 rfl rfl
        · rw [if_neg c] at h
          refine J.iload_n 0 d_M_does_120 rfl rfl ?_
          refine J.if_eq 128 d_M_does_121 rfl (fun c => ?_) (fun c => ?_)
          · rw [if_pos c] at h
            refine J.iconst (v := (0 : Int32)) d_M_does_128 ki_0 ?_
            obtain ⟨x45, m46, zm46, h⟩ := jbd_some h
            refine J.cSi Y_M_is (As := [.int (0 : Int32)]) (rest := [.int ((m1 109 30) - (1 : Int32)), jr G 119]) d_M_does_129 mi_M_is ms_M_is lk_M_270 ⟨rfl, rfl, Nat.le_of_ble_eq_true rfl⟩ (c_M_is hG zm46) rfl (Nat.le_trans (jcI (jcR jcN)) (Nat.le_of_ble_eq_true rfl)) ?_
            refine J.goto 285 d_M_does_132 rfl ?_
            obtain ⟨m47, hm47, g, h⟩ := jst_some h
            refine J.is hG d_M_does_285 g hm47 ?_
            cases h
            exact J.vret d_M_does_286 rfl rfl
          · rw [if_neg c] at h
            refine J.iconst (v := (1 : Int32)) d_M_does_124 ki_1 ?_
            refine J.nop (pc' := 125) rfl ?_
            refine J.goto 129 d_M_does_125 rfl ?_
            obtain ⟨x48, m49, zm49, h⟩ := jbd_some h
            refine J.cSi Y_M_is (As := [.int (1 : Int32)]) (rest := [.int ((m1 109 30) - (1 : Int32)), jr G 119]) d_M_does_129 mi_M_is ms_M_is lk_M_270 ⟨rfl, rfl, Nat.le_of_ble_eq_true rfl⟩ (c_M_is hG zm49) rfl (Nat.le_trans (jcI (jcR jcN)) (Nat.le_of_ble_eq_true rfl)) ?_
            refine J.goto 285 d_M_does_132 rfl ?_
            obtain ⟨m50, hm50, g, h⟩ := jst_some h
            refine J.is hG d_M_does_285 g hm50 ?_
            cases h
            exact J.vret d_M_does_286 rfl rfl
    · rw [if_pos c] at h
      refine J.iload_n 1 d_M_does_90 rfl rfl ?_
      refine J.if_ne 98 d_M_does_91 rfl (fun c => ?_) (fun c => ?_)
      · rw [if_neg c] at h
        refine J.iconst (v := (1 : Int32)) d_M_does_98 ki_1 ?_
        refine J.goto 103 d_M_does_99 rfl ?_
        obtain ⟨x51, m52, zm52, h⟩ := jbd_some h
        refine J.cSi Y_M_is (As := [.int (1 : Int32)]) (rest := [.int ((m1 109 30) - (1 : Int32)), jr G 119]) d_M_does_103 mi_M_is ms_M_is lk_M_270 ⟨rfl, rfl, Nat.le_of_ble_eq_true rfl⟩ (c_M_is hG zm52) rfl (Nat.le_trans (jcI (jcR jcN)) (Nat.le_of_ble_eq_true rfl)) ?_
        refine J.goto 285 d_M_does_106 rfl ?_
        obtain ⟨m53, hm53, g, h⟩ := jst_some h
        refine J.is hG d_M_does_285 g hm53 ?_
        cases h
        exact J.vret d_M_does_286 rfl rfl
      · rw [if_pos c] at h
        refine J.iload_n 0 d_M_does_94 rfl rfl ?_
        refine J.nop (pc' := 95) rfl ?_
        refine J.if_eq 102 d_M_does_95 rfl (fun c => ?_) (fun c => ?_)
        · rw [if_pos c] at h
          refine J.iconst (v := (0 : Int32)) d_M_does_102 ki_0 ?_
          obtain ⟨x54, m55, zm55, h⟩ := jbd_some h
          refine J.cSi Y_M_is (As := [.int (0 : Int32)]) (rest := [.int ((m1 109 30) - (1 : Int32)), jr G 119]) d_M_does_103 mi_M_is ms_M_is lk_M_270 ⟨rfl, rfl, Nat.le_of_ble_eq_true rfl⟩ (c_M_is hG zm55) rfl (Nat.le_trans (jcI (jcR jcN)) (Nat.le_of_ble_eq_true rfl)) ?_
          refine J.goto 285 d_M_does_106 rfl ?_
          obtain ⟨m56, hm56, g, h⟩ := jst_some h
          refine J.is hG d_M_does_285 g hm56 ?_
          cases h
          exact J.vret d_M_does_286 rfl rfl
        · rw [if_neg c] at h
          refine J.iconst (v := (1 : Int32)) d_M_does_98 ki_1 ?_
          refine J.goto 103 d_M_does_99 rfl ?_
          obtain ⟨x57, m58, zm58, h⟩ := jbd_some h
          refine J.cSi Y_M_is (As := [.int (1 : Int32)]) (rest := [.int ((m1 109 30) - (1 : Int32)), jr G 119]) d_M_does_103 mi_M_is ms_M_is lk_M_270 ⟨rfl, rfl, Nat.le_of_ble_eq_true rfl⟩ (c_M_is hG zm58) rfl (Nat.le_trans (jcI (jcR jcN)) (Nat.le_of_ble_eq_true rfl)) ?_
          refine J.goto 285 d_M_does_106 rfl ?_
          obtain ⟨m59, hm59, g, h⟩ := jst_some h
          refine J.is hG d_M_does_285 g hm59 ?_
          cases h
          exact J.vret d_M_does_286 rfl rfl
  · rw [if_pos c] at h
    refine J.aload_n 0 d_M_does_7 rfl rfl ?_
    refine J.getF (n := 119) hG d_M_does_8 fl_M_42 ck_109_29 rfl ?_
    refine J.aload_n 0 d_M_does_11 rfl rfl ?_
    refine J.getI hG d_M_does_12 fl_M_267 ck_109_30 ?_
    refine J.iconst (v := (1 : Int32)) d_M_does_15 ki_1 ?_
    refine J.nop (pc' := 16) rfl ?_
    refine J.isub d_M_does_16 ?_
    refine J.aload_n 0 d_M_does_17 rfl rfl ?_
    refine J.getF (n := 119) hG d_M_does_18 fl_M_42 ck_109_29 rfl ?_
    refine J.aload_n 0 d_M_does_21 rfl rfl ?_
    refine J.getI hG d_M_does_22 fl_M_267 ck_109_30 ?_
    refine J.iconst (v := (1 : Int32)) d_M_does_25 ki_1 ?_
    refine J.isub d_M_does_26 ?_
    obtain ⟨x60, ex60, g, h⟩ := jld_some h
    refine J.il hG d_M_does_27 g ex60 ?_
    refine J.nop (pc' := 28) rfl ?_
    refine J.if_ne 35 d_M_does_28 rfl (fun c => ?_) (fun c => ?_)
    · rw [if_neg c] at h
      refine J.iconst (v := (0 : Int32)) d_M_does_35 ki_0 ?_
      obtain ⟨x61, m62, zm62, h⟩ := jbd_some h
      refine J.cSi Y_M_is (As := [.int (0 : Int32)]) (rest := [.int ((m 109 30) - (1 : Int32)), jr G 119]) d_M_does_36 mi_M_is ms_M_is lk_M_270 ⟨rfl, rfl, Nat.le_of_ble_eq_true rfl⟩ (c_M_is hG zm62) rfl (Nat.le_trans (jcI (jcR jcN)) (Nat.le_of_ble_eq_true rfl)) ?_
      obtain ⟨m63, hm63, g, h⟩ := jst_some h
      refine J.is hG d_M_does_39 g hm63 ?_
      cases h
      exact J.vret d_M_does_40 rfl rfl
    · rw [if_pos c] at h
      refine J.iconst (v := (1 : Int32)) d_M_does_31 ki_1 ?_
      refine J.goto 36 d_M_does_32 rfl ?_
      obtain ⟨x64, m65, zm65, h⟩ := jbd_some h
      refine J.cSi Y_M_is (As := [.int (1 : Int32)]) (rest := [.int ((m 109 30) - (1 : Int32)), jr G 119]) d_M_does_36 mi_M_is ms_M_is lk_M_270 ⟨rfl, rfl, Nat.le_of_ble_eq_true rfl⟩ (c_M_is hG zm65) rfl (Nat.le_trans (jcI (jcR jcN)) (Nat.le_of_ble_eq_true rfl)) ?_
      obtain ⟨m66, hm66, g, h⟩ := jst_some h
      refine J.is hG d_M_does_39 g hm66 ?_
      cases h
      exact J.vret d_M_does_40 rfl rfl

def lp_M_holdsE_12 (v1 : Int32) (k101 : jMem → Option (Int32 × jMem)) : Nat → Int32 → jMem → Option (Int32 × jMem)
  | 0, _, _ => none
  | n + 1, v2, m =>
    jld 1 m 115 (v1 + (1 : Int32)) fun x3 =>
    if x3 ≤ v2 then
      k101 m
    else
      jld 1 m 111 v2 fun x4 =>
      if x4 = (2 : Int32) then
        jld 1 m 112 v2 fun x13 =>
        jbd (f_M_does x13 m) fun u14 m15 =>
        lp_M_holdsE_12 v1 k101 n (v2 + (1 : Int32)) m15
      else
        jld 1 m 111 v2 fun x5 =>
        if x5 = 0 then
          jld 1 m 112 v2 fun x10 =>
          jst 1 m 119 (m 109 30) x10 fun m11 =>
          jpu m11 109 30 ((m11 109 30) + (1 : Int32)) fun m12 =>
          lp_M_holdsE_12 v1 k101 n (v2 + (1 : Int32)) m12
        else
          jld 1 m 112 v2 fun x6 =>
          jld 1 m 118 x6 fun x7 =>
          jst 1 m 119 (m 109 30) x7 fun m8 =>
          jpu m8 109 30 ((m8 109 30) + (1 : Int32)) fun m9 =>
          lp_M_holdsE_12 v1 k101 n (v2 + (1 : Int32)) m9
def f_M_holdsE (v1 : Int32) (m : jMem) : Option (Int32 × jMem) :=
  jpu m 109 30 (0 : Int32) fun m1 =>
  jld 1 m1 115 v1 fun x2 =>
  lp_M_holdsE_12 v1 (fun m16 =>
    jld 1 m16 119 (0 : Int32) fun x17 =>
    if x17 = 0 then
      some ((0 : Int32), m16)
    else
      some ((1 : Int32), m16)) 5000 x2 m1
theorem jlp_M_holdsE_12 {G : jG} (hG : jFul G) (v1 : Int32) (k101 : jMem → Option (Int32 × jMem))
    (hk101 : ∀ (m : jMem) (r : (Int32 × jMem)), k101 m = some r → J G Y_M_holdsE 101 [(0, jr G 109)] [] m (jri r)) : ∀ (n : Nat) (v2 : Int32) (m : jMem) (r : (Int32 × jMem)), lp_M_holdsE_12 v1 k101 n v2 m = some r → J G Y_M_holdsE 12 [(0, jr G 109), (1, .int v1), (2, .int v2)] [] m (jri r) := by
  intro n
  induction n with
  | zero => intro v2 m r h; unfold lp_M_holdsE_12 at h; cases h
  | succ n ih =>
    intro v2 m r h
    unfold lp_M_holdsE_12 at h
    refine J.iload_n 2 d_M_holdsE_12 rfl rfl ?_
    refine J.aload_n 0 d_M_holdsE_13 rfl rfl ?_
    refine J.getF (n := 115) hG d_M_holdsE_14 fl_M_26 ck_109_10 rfl ?_
    refine J.iload_n 1 d_M_holdsE_17 rfl rfl ?_
    refine J.iconst (v := (1 : Int32)) d_M_holdsE_18 ki_1 ?_
    refine J.iadd d_M_holdsE_19 ?_
    obtain ⟨x3, ex3, g, h⟩ := jld_some h
    refine J.il hG d_M_holdsE_20 g ex3 ?_
    refine J.icmp_ge 101 d_M_holdsE_21 rfl (fun c => ?_) (fun c => ?_)
    · rw [if_pos c] at h
      exact J.sub (ls' := [(0, jr G 109)]) [0] rfl (hk101  m _ h)
    · rw [if_neg c] at h
      refine J.nop (pc' := 24) rfl ?_
      refine J.aload_n 0 d_M_holdsE_24 rfl rfl ?_
      refine J.getF (n := 111) hG d_M_holdsE_25 fl_M_13 ck_109_3 rfl ?_
      refine J.iload_n 2 d_M_holdsE_28 rfl rfl ?_
      obtain ⟨x4, ex4, g, h⟩ := jld_some h
      refine J.il hG d_M_holdsE_29 g ex4 ?_
      refine J.iconst (v := (2 : Int32)) d_M_holdsE_30 ki_2 ?_
      refine J.icmp_ne 47 d_M_holdsE_31 rfl (fun c => ?_) (fun c => ?_)
      · rw [if_neg c] at h
        refine J.aload_n 0 d_M_holdsE_47 rfl rfl ?_
        refine J.getF (n := 119) hG d_M_holdsE_48 fl_M_42 ck_109_29 rfl ?_
        refine J.aload_n 0 d_M_holdsE_51 rfl rfl ?_
        refine J.getI hG d_M_holdsE_52 fl_M_267 ck_109_30 ?_
        refine J.aload_n 0 d_M_holdsE_55 rfl rfl ?_
        refine J.getF (n := 111) hG d_M_holdsE_56 fl_M_13 ck_109_3 rfl ?_
        refine J.iload_n 2 d_M_holdsE_59 rfl rfl ?_
        obtain ⟨x5, ex5, g, h⟩ := jld_some h
        refine J.il hG d_M_holdsE_60 g ex5 ?_
        refine J.nop (pc' := 61) rfl ?_
        refine J.if_ne 73 d_M_holdsE_61 rfl (fun c => ?_) (fun c => ?_)
        · rw [if_neg c] at h
          refine J.aload_n 0 d_M_holdsE_73 rfl rfl ?_
          refine J.getF (n := 118) hG d_M_holdsE_74 fl_M_39 ck_109_28 rfl ?_
          refine J.aload_n 0 d_M_holdsE_77 rfl rfl ?_
          refine J.getF (n := 112) hG d_M_holdsE_78 fl_M_16 ck_109_4 rfl ?_
          refine J.iload_n 2 d_M_holdsE_81 rfl rfl ?_
          obtain ⟨x6, ex6, g, h⟩ := jld_some h
          refine J.il hG d_M_holdsE_82 g ex6 ?_
          obtain ⟨x7, ex7, g, h⟩ := jld_some h
          refine J.il hG d_M_holdsE_83 g ex7 ?_
          obtain ⟨m8, hm8, g, h⟩ := jst_some h
          refine J.is hG d_M_holdsE_84 g hm8 ?_
          refine J.nop (pc' := 85) rfl ?_
          refine J.aload_n 0 d_M_holdsE_85 rfl rfl ?_
          refine J.dup d_M_holdsE_86 (jr_cat _ _) ?_
          refine J.getI hG d_M_holdsE_87 fl_M_267 ck_109_30 ?_
          refine J.iconst (v := (1 : Int32)) d_M_holdsE_90 ki_1 ?_
          refine J.iadd d_M_holdsE_91 ?_
          obtain ⟨m9, hm9, h⟩ := jpu_some h
          refine J.putI hG d_M_holdsE_92 fl_M_267 fp_10_30 ck_109_30 hm9 ?_
          refine J.iinc 2 (v := (1 : Int32)) (lv := [(2, .int (v2 + (1 : Int32))), (0, jr G 109), (1, .int v1)]) d_M_holdsE_95 rfl ki_1 (by decide) rfl ?_
          refine J.goto 12 d_M_holdsE_98 rfl ?_
          exact J.sub (ls' := [(0, jr G 109), (1, .int v1), (2, .int (v2 + (1 : Int32)))]) [1, 2, 0] rfl (ih (v2 + (1 : Int32)) m9 _ h)
        · rw [if_pos c] at h
          refine J.aload_n 0 d_M_holdsE_64 rfl rfl ?_
          refine J.getF (n := 112) hG d_M_holdsE_65 fl_M_16 ck_109_4 rfl ?_
          refine J.iload_n 2 d_M_holdsE_68 rfl rfl ?_
          obtain ⟨x10, ex10, g, h⟩ := jld_some h
          refine J.il hG d_M_holdsE_69 g ex10 ?_
          refine J.goto 84 d_M_holdsE_70 rfl ?_
          obtain ⟨m11, hm11, g, h⟩ := jst_some h
          refine J.is hG d_M_holdsE_84 g hm11 ?_
          refine J.aload_n 0 d_M_holdsE_85 rfl rfl ?_
          refine J.dup d_M_holdsE_86 (jr_cat _ _) ?_
          refine J.getI hG d_M_holdsE_87 fl_M_267 ck_109_30 ?_
          refine J.iconst (v := (1 : Int32)) d_M_holdsE_90 ki_1 ?_
          refine J.iadd d_M_holdsE_91 ?_
          obtain ⟨m12, hm12, h⟩ := jpu_some h
          refine J.putI hG d_M_holdsE_92 fl_M_267 fp_10_30 ck_109_30 hm12 ?_
          refine J.iinc 2 (v := (1 : Int32)) (lv := [(2, .int (v2 + (1 : Int32))), (0, jr G 109), (1, .int v1)]) d_M_holdsE_95 rfl ki_1 (by decide) rfl ?_
          refine J.nop (pc' := 98) rfl ?_
          refine J.goto 12 d_M_holdsE_98 rfl ?_
          exact J.sub (ls' := [(0, jr G 109), (1, .int v1), (2, .int (v2 + (1 : Int32)))]) [1, 2, 0] rfl (ih (v2 + (1 : Int32)) m12 _ h)
      · rw [if_pos c] at h
        refine J.aload_n 0 d_M_holdsE_34 rfl rfl ?_
        refine J.aload_n 0 d_M_holdsE_35 rfl rfl ?_
        refine J.nop (pc' := 36) rfl ?_
        refine J.getF (n := 112) hG d_M_holdsE_36 fl_M_16 ck_109_4 rfl ?_
        refine J.iload_n 2 d_M_holdsE_39 rfl rfl ?_
        obtain ⟨x13, ex13, g, h⟩ := jld_some h
        refine J.il hG d_M_holdsE_40 g ex13 ?_
        obtain ⟨u14, m15, zm15, h⟩ := jbd_some h
        refine J.cVv Y_M_does (As := [.int x13]) (rest := []) hG d_M_holdsE_41 mi_M_does mv_M_does lk_M_274 ⟨rfl, rfl, Nat.le_of_ble_eq_true rfl⟩ cq_109 cc_10 (c_M_does hG zm15) rfl (Nat.le_trans jcN (Nat.le_of_ble_eq_true rfl)) ?_
        refine J.goto 95 d_M_holdsE_44 rfl ?_
        refine J.iinc 2 (v := (1 : Int32)) (lv := [(2, .int (v2 + (1 : Int32))), (0, jr G 109), (1, .int v1)]) d_M_holdsE_95 rfl ki_1 (by decide) rfl ?_
        refine J.goto 12 d_M_holdsE_98 rfl ?_
        exact J.sub (ls' := [(0, jr G 109), (1, .int v1), (2, .int (v2 + (1 : Int32)))]) [1, 2, 0] rfl (ih (v2 + (1 : Int32)) m15 _ h)
theorem c_M_holdsE {G : jG} (hG : jFul G) {v1 : Int32} {m : jMem} {r : (Int32 × jMem)} (h : f_M_holdsE v1 m = some r) : jCt G Y_M_holdsE [jr G 109, .int v1] m (jri r) := by
  refine jCt.ov (ls := [(0, jr G 109), (1, .int v1)]) mi_M_holdsE (jAvR (jAvI jAvN)) (Nat.le_of_ble_eq_true rfl) ?_ ⟨rfl, rfl⟩
  unfold f_M_holdsE at h
  refine J.aload_n 0 d_M_holdsE_0 rfl rfl ?_
  refine J.iconst (v := (0 : Int32)) d_M_holdsE_1 ki_0 ?_
  obtain ⟨m1, hm1, h⟩ := jpu_some h
  refine J.putI hG d_M_holdsE_2 fl_M_267 fp_10_30 ck_109_30 hm1 ?_
  refine J.aload_n 0 d_M_holdsE_5 rfl rfl ?_
  refine J.getF (n := 115) hG d_M_holdsE_6 fl_M_26 ck_109_10 rfl ?_
  refine J.iload_n 1 d_M_holdsE_9 rfl rfl ?_
  obtain ⟨x2, ex2, g, h⟩ := jld_some h
  refine J.il hG d_M_holdsE_10 g ex2 ?_
  refine J.istore_n (lv := [(2, .int x2), (0, jr G 109), (1, .int v1)]) d_M_holdsE_11 rfl (by decide) rfl ?_
  refine J.sub (ls' := [(0, jr G 109), (1, .int v1), (2, .int x2)]) [1, 2, 0] rfl ?_
  refine jlp_M_holdsE_12 hG v1 _ ?_ _ x2 m1 _ h
  intro m16 r h
  refine J.aload_n 0 d_M_holdsE_101 rfl rfl ?_
  refine J.getF (n := 119) hG d_M_holdsE_102 fl_M_42 ck_109_29 rfl ?_
  refine J.iconst (v := (0 : Int32)) d_M_holdsE_105 ki_0 ?_
  obtain ⟨x17, ex17, g, h⟩ := jld_some h
  refine J.il hG d_M_holdsE_106 g ex17 ?_
  refine J.if_eq 114 d_M_holdsE_107 rfl (fun c => ?_) (fun c => ?_)
  · rw [if_pos c] at h
    refine J.iconst (v := (0 : Int32)) d_M_holdsE_114 ki_0 ?_
    cases h
    exact J.iret d_M_holdsE_115 rfl rfl rfl
  · rw [if_neg c] at h
    refine J.iconst (v := (1 : Int32)) d_M_holdsE_110 ki_1 ?_
    refine J.goto 115 d_M_holdsE_111 rfl ?_
    cases h
    exact J.iret d_M_holdsE_115 rfl rfl rfl

def f_M_isWriter (v0 : Int32) (m : jMem) : Option (Int32 × jMem) :=
  if v0 < 0 then
    some ((0 : Int32), m)
  else
    if (6 : Int32) ≤ v0 then
      some ((0 : Int32), m)
    else
      some ((1 : Int32), m)
theorem c_M_isWriter {G : jG} (hG : jFul G) {v0 : Int32} {m : jMem} {r : (Int32 × jMem)} (h : f_M_isWriter v0 m = some r) : jCt G Y_M_isWriter [.int v0] m (jri r) := by
  refine jCt.ov (ls := [(0, .int v0)]) mi_M_isWriter (jAvI jAvN) (Nat.le_of_ble_eq_true rfl) ?_ ⟨rfl, rfl⟩
  unfold f_M_isWriter at h
  refine J.iload_n 0 d_M_isWriter_0 rfl rfl ?_
  refine J.if_lt 14 d_M_isWriter_1 rfl (fun c => ?_) (fun c => ?_)
  · rw [if_pos c] at h
    refine J.iconst (v := (0 : Int32)) d_M_isWriter_14 ki_0 ?_
    cases h
    exact J.iret d_M_isWriter_15 rfl rfl rfl
  · rw [if_neg c] at h
    refine J.iload_n 0 d_M_isWriter_4 rfl rfl ?_
    refine J.bipush (v := (6 : Int32)) d_M_isWriter_5 kb_6 ?_
    refine J.icmp_ge 14 d_M_isWriter_7 rfl (fun c => ?_) (fun c => ?_)
    · rw [if_pos c] at h
      refine J.iconst (v := (0 : Int32)) d_M_isWriter_14 ki_0 ?_
      cases h
      exact J.iret d_M_isWriter_15 rfl rfl rfl
    · rw [if_neg c] at h
      refine J.iconst (v := (1 : Int32)) d_M_isWriter_10 ki_1 ?_
      refine J.goto 15 d_M_isWriter_11 rfl ?_
      cases h
      exact J.iret d_M_isWriter_15 rfl rfl rfl

def f_M_isLetter (v1 : Int32) (m : jMem) : Option (Int32 × jMem) :=
  if v1 < 0 then
    some ((0 : Int32), m)
  else
    if (m 109 33) ≤ v1 then
      some ((0 : Int32), m)
    else
      some ((1 : Int32), m)
theorem c_M_isLetter {G : jG} (hG : jFul G) {v1 : Int32} {m : jMem} {r : (Int32 × jMem)} (h : f_M_isLetter v1 m = some r) : jCt G Y_M_isLetter [jr G 109, .int v1] m (jri r) := by
  refine jCt.ov (ls := [(0, jr G 109), (1, .int v1)]) mi_M_isLetter (jAvR (jAvI jAvN)) (Nat.le_of_ble_eq_true rfl) ?_ ⟨rfl, rfl⟩
  unfold f_M_isLetter at h
  refine J.iload_n 1 d_M_isLetter_0 rfl rfl ?_
  refine J.if_lt 16 d_M_isLetter_1 rfl (fun c => ?_) (fun c => ?_)
  · rw [if_pos c] at h
    refine J.iconst (v := (0 : Int32)) d_M_isLetter_16 ki_0 ?_
    cases h
    exact J.iret d_M_isLetter_17 rfl rfl rfl
  · rw [if_neg c] at h
    refine J.iload_n 1 d_M_isLetter_4 rfl rfl ?_
    refine J.aload_n 0 d_M_isLetter_5 rfl rfl ?_
    refine J.getI hG d_M_isLetter_6 fl_M_277 ck_109_33 ?_
    refine J.icmp_ge 16 d_M_isLetter_9 rfl (fun c => ?_) (fun c => ?_)
    · rw [if_pos c] at h
      refine J.iconst (v := (0 : Int32)) d_M_isLetter_16 ki_0 ?_
      cases h
      exact J.iret d_M_isLetter_17 rfl rfl rfl
    · rw [if_neg c] at h
      refine J.iconst (v := (1 : Int32)) d_M_isLetter_12 ki_1 ?_
      refine J.goto 17 d_M_isLetter_13 rfl ?_
      cases h
      exact J.iret d_M_isLetter_17 rfl rfl rfl

def f_M_isDay (v0 : Int32) (m : jMem) : Option (Int32 × jMem) :=
  if v0 < 0 then
    some ((0 : Int32), m)
  else
    if (999 : Int32) < v0 then
      some ((0 : Int32), m)
    else
      some ((1 : Int32), m)
theorem c_M_isDay {G : jG} (hG : jFul G) {v0 : Int32} {m : jMem} {r : (Int32 × jMem)} (h : f_M_isDay v0 m = some r) : jCt G Y_M_isDay [.int v0] m (jri r) := by
  refine jCt.ov (ls := [(0, .int v0)]) mi_M_isDay (jAvI jAvN) (Nat.le_of_ble_eq_true rfl) ?_ ⟨rfl, rfl⟩
  unfold f_M_isDay at h
  refine J.iload_n 0 d_M_isDay_0 rfl rfl ?_
  refine J.if_lt 15 d_M_isDay_1 rfl (fun c => ?_) (fun c => ?_)
  · rw [if_pos c] at h
    refine J.iconst (v := (0 : Int32)) d_M_isDay_15 ki_0 ?_
    cases h
    exact J.iret d_M_isDay_16 rfl rfl rfl
  · rw [if_neg c] at h
    refine J.iload_n 0 d_M_isDay_4 rfl rfl ?_
    refine J.sipush (v := (999 : Int32)) d_M_isDay_5 ks_999 ?_
    refine J.icmp_gt 15 d_M_isDay_8 rfl (fun c => ?_) (fun c => ?_)
    · rw [if_pos c] at h
      refine J.iconst (v := (0 : Int32)) d_M_isDay_15 ki_0 ?_
      cases h
      exact J.iret d_M_isDay_16 rfl rfl rfl
    · rw [if_neg c] at h
      refine J.iconst (v := (1 : Int32)) d_M_isDay_11 ki_1 ?_
      refine J.goto 16 d_M_isDay_12 rfl ?_
      cases h
      exact J.iret d_M_isDay_16 rfl rfl rfl

def lp_M_bits_4 (v0 : Int32) (k24 : Int32 → jMem → Option (Int32 × jMem)) : Nat → Int32 → Int32 → jMem → Option (Int32 × jMem)
  | 0, _, _, _ => none
  | n + 1, v1, v2, m =>
    if (31 : Int32) ≤ v2 then
      k24 v1 m
    else
      lp_M_bits_4 v0 k24 n (v1 + ((v0 >>> (v2 &&& 31)) &&& (1 : Int32))) (v2 + (1 : Int32)) m
def f_M_bits (v0 : Int32) (m : jMem) : Option (Int32 × jMem) :=
  lp_M_bits_4 v0 (fun w2 m1 =>
    some (w2, m1)) 5000 (0 : Int32) (0 : Int32) m
theorem jlp_M_bits_4 {G : jG} (hG : jFul G) (v0 : Int32) (k24 : Int32 → jMem → Option (Int32 × jMem))
    (hk24 : ∀ (v1 : Int32) (m : jMem) (r : (Int32 × jMem)), k24 v1 m = some r → J G Y_M_bits 24 [(1, .int v1)] [] m (jri r)) : ∀ (n : Nat) (v1 : Int32) (v2 : Int32) (m : jMem) (r : (Int32 × jMem)), lp_M_bits_4 v0 k24 n v1 v2 m = some r → J G Y_M_bits 4 [(0, .int v0), (1, .int v1), (2, .int v2)] [] m (jri r) := by
  intro n
  induction n with
  | zero => intro v1 v2 m r h; unfold lp_M_bits_4 at h; cases h
  | succ n ih =>
    intro v1 v2 m r h
    unfold lp_M_bits_4 at h
    refine J.iload_n 2 d_M_bits_4 rfl rfl ?_
    refine J.bipush (v := (31 : Int32)) d_M_bits_5 kb_31 ?_
    refine J.icmp_ge 24 d_M_bits_7 rfl (fun c => ?_) (fun c => ?_)
    · rw [if_pos c] at h
      exact J.sub (ls' := [(1, .int v1)]) [1] rfl (hk24 v1 m _ h)
    · rw [if_neg c] at h
      refine J.iload_n 1 d_M_bits_10 rfl rfl ?_
      refine J.iload_n 0 d_M_bits_11 rfl rfl ?_
      refine J.iload_n 2 d_M_bits_12 rfl rfl ?_
      refine J.ishr d_M_bits_13 ?_
      refine J.iconst (v := (1 : Int32)) d_M_bits_14 ki_1 ?_
      refine J.nop (pc' := 15) rfl ?_
      refine J.iand d_M_bits_15 ?_
      refine J.iadd d_M_bits_16 ?_
      refine J.istore_n (lv := [(1, .int (v1 + ((v0 >>> (v2 &&& 31)) &&& (1 : Int32)))), (0, .int v0), (2, .int v2)]) d_M_bits_17 rfl (by decide) rfl ?_
      refine J.iinc 2 (v := (1 : Int32)) (lv := [(2, .int (v2 + (1 : Int32))), (1, .int (v1 + ((v0 >>> (v2 &&& 31)) &&& (1 : Int32)))), (0, .int v0)]) d_M_bits_18 rfl ki_1 (by decide) rfl ?_
      refine J.goto 4 d_M_bits_21 rfl ?_
      exact J.sub (ls' := [(0, .int v0), (1, .int (v1 + ((v0 >>> (v2 &&& 31)) &&& (1 : Int32)))), (2, .int (v2 + (1 : Int32)))]) [2, 1, 0] rfl (ih (v1 + ((v0 >>> (v2 &&& 31)) &&& (1 : Int32))) (v2 + (1 : Int32)) m _ h)
theorem c_M_bits {G : jG} (hG : jFul G) {v0 : Int32} {m : jMem} {r : (Int32 × jMem)} (h : f_M_bits v0 m = some r) : jCt G Y_M_bits [.int v0] m (jri r) := by
  refine jCt.ov (ls := [(0, .int v0)]) mi_M_bits (jAvI jAvN) (Nat.le_of_ble_eq_true rfl) ?_ ⟨rfl, rfl⟩
  unfold f_M_bits at h
  refine J.iconst (v := (0 : Int32)) d_M_bits_0 ki_0 ?_
  refine J.istore_n (lv := [(1, .int (0 : Int32)), (0, .int v0)]) d_M_bits_1 rfl (by decide) rfl ?_
  refine J.iconst (v := (0 : Int32)) d_M_bits_2 ki_0 ?_
  refine J.istore_n (lv := [(2, .int (0 : Int32)), (1, .int (0 : Int32)), (0, .int v0)]) d_M_bits_3 rfl (by decide) rfl ?_
  refine J.sub (ls' := [(0, .int v0), (1, .int (0 : Int32)), (2, .int (0 : Int32))]) [2, 1, 0] rfl ?_
  refine jlp_M_bits_4 hG v0 _ ?_ _ (0 : Int32) (0 : Int32) m _ h
  intro w2 m1 r h
  refine J.iload_n 0 d_M_bits_24 rfl rfl ?_
  cases h
  exact J.iret d_M_bits_25 rfl (vp_nar_int _) rfl

def f_M_way (v1 : Int32) (v2 : Int32) (v3 : Int32) (m : jMem) : Option (Int32 × jMem) :=
  jpu m 109 0 (0 : Int32) fun m1 =>
  jbd (f_M_isWriter v1 m1) fun x2 m3 =>
  if x2 = 0 then
    some ((0 : Int32), m3)
  else
    jbd (f_M_isWriter v2 m3) fun x4 m5 =>
    if x4 = 0 then
      some ((0 : Int32), m5)
    else
      if v1 = v2 then
        some ((0 : Int32), m5)
      else
        if v3 < (1 : Int32) then
          some ((0 : Int32), m5)
        else
          if v3 ≤ (30 : Int32) then
            jst 1 m5 120 (((6 : Int32) * v1) + v2) v3 fun m6 =>
            jst 1 m6 120 (((6 : Int32) * v2) + v1) v3 fun m7 =>
            some ((1 : Int32), m7)
          else
            some ((0 : Int32), m5)
theorem c_M_way {G : jG} (hG : jFul G) {v1 : Int32} {v2 : Int32} {v3 : Int32} {m : jMem} {r : (Int32 × jMem)} (h : f_M_way v1 v2 v3 m = some r) : jCt G Y_M_way [jr G 109, .int v1, .int v2, .int v3] m (jri r) := by
  refine jCt.ov (ls := [(0, jr G 109), (1, .int v1), (2, .int v2), (3, .int v3)]) mi_M_way (jAvR (jAvI (jAvI (jAvI jAvN)))) (Nat.le_of_ble_eq_true rfl) ?_ ⟨rfl, rfl⟩
  unfold f_M_way at h
  refine J.aload_n 0 d_M_way_0 rfl rfl ?_
  refine J.iconst (v := (0 : Int32)) d_M_way_1 ki_0 ?_
  obtain ⟨m1, hm1, h⟩ := jpu_some h
  refine J.putI hG d_M_way_2 fl_M_132 fp_10_0 ck_109_0 hm1 ?_
  refine J.iload_n 1 d_M_way_5 rfl rfl ?_
  obtain ⟨x2, m3, zm3, h⟩ := jbd_some h
  refine J.cSi Y_M_isWriter (As := [.int v1]) (rest := []) d_M_way_6 mi_M_isWriter ms_M_isWriter lk_M_280 ⟨rfl, rfl, Nat.le_of_ble_eq_true rfl⟩ (c_M_isWriter hG zm3) rfl (Nat.le_trans jcN (Nat.le_of_ble_eq_true rfl)) ?_
  refine J.if_eq 35 d_M_way_9 rfl (fun c => ?_) (fun c => ?_)
  · rw [if_pos c] at h
    refine J.iconst (v := (0 : Int32)) d_M_way_35 ki_0 ?_
    cases h
    exact J.iret d_M_way_36 rfl rfl rfl
  · rw [if_neg c] at h
    refine J.iload_n 2 d_M_way_12 rfl rfl ?_
    obtain ⟨x4, m5, zm5, h⟩ := jbd_some h
    refine J.cSi Y_M_isWriter (As := [.int v2]) (rest := []) d_M_way_13 mi_M_isWriter ms_M_isWriter lk_M_280 ⟨rfl, rfl, Nat.le_of_ble_eq_true rfl⟩ (c_M_isWriter hG zm5) rfl (Nat.le_trans jcN (Nat.le_of_ble_eq_true rfl)) ?_
    refine J.nop (pc' := 16) rfl ?_
    refine J.if_eq 35 d_M_way_16 rfl (fun c => ?_) (fun c => ?_)
    · rw [if_pos c] at h
      refine J.iconst (v := (0 : Int32)) d_M_way_35 ki_0 ?_
      cases h
      exact J.iret d_M_way_36 rfl rfl rfl
    · rw [if_neg c] at h
      refine J.iload_n 1 d_M_way_19 rfl rfl ?_
      refine J.iload_n 2 d_M_way_20 rfl rfl ?_
      refine J.icmp_eq 35 d_M_way_21 rfl (fun c => ?_) (fun c => ?_)
      · rw [if_pos c] at h
        refine J.iconst (v := (0 : Int32)) d_M_way_35 ki_0 ?_
        cases h
        exact J.iret d_M_way_36 rfl rfl rfl
      · rw [if_neg c] at h
        refine J.iload_n 3 d_M_way_24 rfl rfl ?_
        refine J.iconst (v := (1 : Int32)) d_M_way_25 ki_1 ?_
        refine J.icmp_lt 35 d_M_way_26 rfl (fun c => ?_) (fun c => ?_)
        · rw [if_pos c] at h
          refine J.iconst (v := (0 : Int32)) d_M_way_35 ki_0 ?_
          cases h
          exact J.iret d_M_way_36 rfl rfl rfl
        · rw [if_neg c] at h
          refine J.iload_n 3 d_M_way_29 rfl rfl ?_
          refine J.nop (pc' := 30) rfl ?_
          refine J.bipush (v := (30 : Int32)) d_M_way_30 kb_30 ?_
          refine J.icmp_le 37 d_M_way_32 rfl (fun c => ?_) (fun c => ?_)
          · rw [if_pos c] at h
            refine J.aload_n 0 d_M_way_37 rfl rfl ?_
            refine J.getF (n := 120) hG d_M_way_38 fl_M_45 ck_109_32 rfl ?_
            refine J.bipush (v := (6 : Int32)) d_M_way_41 kb_6 ?_
            refine J.iload_n 1 d_M_way_43 rfl rfl ?_
            refine J.imul d_M_way_44 ?_
            refine J.iload_n 2 d_M_way_45 rfl rfl ?_
            refine J.iadd d_M_way_46 ?_
            refine J.iload_n 3 d_M_way_47 rfl rfl ?_
            refine J.nop (pc' := 48) rfl ?_
            obtain ⟨m6, hm6, g, h⟩ := jst_some h
            refine J.is hG d_M_way_48 g hm6 ?_
            refine J.aload_n 0 d_M_way_49 rfl rfl ?_
            refine J.getF (n := 120) hG d_M_way_50 fl_M_45 ck_109_32 rfl ?_
            refine J.bipush (v := (6 : Int32)) d_M_way_53 kb_6 ?_
            refine J.iload_n 2 d_M_way_55 rfl rfl ?_
            refine J.imul d_M_way_56 ?_
            refine J.iload_n 1 d_M_way_57 rfl rfl ?_
            refine J.iadd d_M_way_58 ?_
            refine J.nop (pc' := 59) rfl ?_
            refine J.iload_n 3 d_M_way_59 rfl rfl ?_
            obtain ⟨m7, hm7, g, h⟩ := jst_some h
            refine J.is hG d_M_way_60 g hm7 ?_
            refine J.iconst (v := (1 : Int32)) d_M_way_61 ki_1 ?_
            cases h
            exact J.iret d_M_way_62 rfl rfl rfl
          · rw [if_neg c] at h
            refine J.iconst (v := (0 : Int32)) d_M_way_35 ki_0 ?_
            cases h
            exact J.iret d_M_way_36 rfl rfl rfl

def f_M_parted (v1 : Int32) (v2 : Int32) (v3 : Int32) (m : jMem) : Option (Int32 × jMem) :=
  if (((m 109 50) >>> (v1 &&& 31)) &&& (1 : Int32)) = (((m 109 50) >>> (v2 &&& 31)) &&& (1 : Int32)) then
    some (v3, m)
  else
    if v3 < (m 109 51) then
      some (v3, m)
    else
      if (m 109 52) < v3 then
        some (v3, m)
      else
        some (((m 109 52) + (1 : Int32)), m)
theorem c_M_parted {G : jG} (hG : jFul G) {v1 : Int32} {v2 : Int32} {v3 : Int32} {m : jMem} {r : (Int32 × jMem)} (h : f_M_parted v1 v2 v3 m = some r) : jCt G Y_M_parted [jr G 109, .int v1, .int v2, .int v3] m (jri r) := by
  refine jCt.ov (ls := [(0, jr G 109), (1, .int v1), (2, .int v2), (3, .int v3)]) mi_M_parted (jAvR (jAvI (jAvI (jAvI jAvN)))) (Nat.le_of_ble_eq_true rfl) ?_ ⟨rfl, rfl⟩
  unfold f_M_parted at h
  refine J.aload_n 0 d_M_parted_0 rfl rfl ?_
  refine J.getI hG d_M_parted_1 fl_M_283 ck_109_50 ?_
  refine J.iload_n 1 d_M_parted_4 rfl rfl ?_
  refine J.ishr d_M_parted_5 ?_
  refine J.iconst (v := (1 : Int32)) d_M_parted_6 ki_1 ?_
  refine J.iand d_M_parted_7 ?_
  refine J.aload_n 0 d_M_parted_8 rfl rfl ?_
  refine J.getI hG d_M_parted_9 fl_M_283 ck_109_50 ?_
  refine J.nop (pc' := 12) rfl ?_
  refine J.iload_n 2 d_M_parted_12 rfl rfl ?_
  refine J.ishr d_M_parted_13 ?_
  refine J.iconst (v := (1 : Int32)) d_M_parted_14 ki_1 ?_
  refine J.iand d_M_parted_15 ?_
  refine J.icmp_eq 44 d_M_parted_16 rfl (fun c => ?_) (fun c => ?_)
  · rw [if_pos c] at h
    refine J.iload_n 3 d_M_parted_44 rfl rfl ?_
    cases h
    exact J.iret d_M_parted_45 rfl (vp_nar_int _) rfl
  · rw [if_neg c] at h
    refine J.iload_n 3 d_M_parted_19 rfl rfl ?_
    refine J.aload_n 0 d_M_parted_20 rfl rfl ?_
    refine J.getI hG d_M_parted_21 fl_M_286 ck_109_51 ?_
    refine J.nop (pc' := 24) rfl ?_
    refine J.icmp_lt 44 d_M_parted_24 rfl (fun c => ?_) (fun c => ?_)
    · rw [if_pos c] at h
      refine J.iload_n 3 d_M_parted_44 rfl rfl ?_
      cases h
      exact J.iret d_M_parted_45 rfl (vp_nar_int _) rfl
    · rw [if_neg c] at h
      refine J.iload_n 3 d_M_parted_27 rfl rfl ?_
      refine J.aload_n 0 d_M_parted_28 rfl rfl ?_
      refine J.getI hG d_M_parted_29 fl_M_289 ck_109_52 ?_
      refine J.icmp_gt 44 d_M_parted_32 rfl (fun c => ?_) (fun c => ?_)
      · rw [if_pos c] at h
        refine J.iload_n 3 d_M_parted_44 rfl rfl ?_
        cases h
        exact J.iret d_M_parted_45 rfl (vp_nar_int _) rfl
      · rw [if_neg c] at h
        refine J.aload_n 0 d_M_parted_35 rfl rfl ?_
        refine J.getI hG d_M_parted_36 fl_M_289 ck_109_52 ?_
        refine J.iconst (v := (1 : Int32)) d_M_parted_39 ki_1 ?_
        refine J.nop (pc' := 40) rfl ?_
        refine J.iadd d_M_parted_40 ?_
        refine J.goto 45 d_M_parted_41 rfl ?_
        cases h
        exact J.iret d_M_parted_45 rfl (vp_nar_int _) rfl

def f_M_post (v1 : Int32) (v2 : Int32) (v3 : Int32) (m : jMem) : Option (Unit × jMem) :=
  jst 1 m 130 (m 109 44) v1 fun m1 =>
  jst 1 m1 131 (m1 109 44) v2 fun m2 =>
  jst 1 m2 132 (m2 109 44) v3 fun m3 =>
  jld 1 m3 120 (((6 : Int32) * v2) + v3) fun x4 =>
  jbd (f_M_parted v2 v3 ((m3 109 31) + x4) m3) fun x5 m6 =>
  jst 1 m6 133 (m3 109 44) x5 fun m7 =>
  jst 1 m7 134 (m7 109 44) (0 : Int32) fun m8 =>
  jpu m8 109 44 ((m8 109 44) + (1 : Int32)) fun m9 =>
  some ((), m9)
theorem c_M_post {G : jG} (hG : jFul G) {v1 : Int32} {v2 : Int32} {v3 : Int32} {m : jMem} {r : (Unit × jMem)} (h : f_M_post v1 v2 v3 m = some r) : jCt G Y_M_post [jr G 109, .int v1, .int v2, .int v3] m (jrv r) := by
  refine jCt.ov (ls := [(0, jr G 109), (1, .int v1), (2, .int v2), (3, .int v3)]) mi_M_post (jAvR (jAvI (jAvI (jAvI jAvN)))) (Nat.le_of_ble_eq_true rfl) ?_ ⟨rfl, rfl⟩
  unfold f_M_post at h
  refine J.aload_n 0 d_M_post_0 rfl rfl ?_
  refine J.getF (n := 130) hG d_M_post_1 fl_M_75 ck_109_45 rfl ?_
  refine J.aload_n 0 d_M_post_4 rfl rfl ?_
  refine J.getI hG d_M_post_5 fl_M_292 ck_109_44 ?_
  refine J.iload_n 1 d_M_post_8 rfl rfl ?_
  obtain ⟨m1, hm1, g, h⟩ := jst_some h
  refine J.is hG d_M_post_9 g hm1 ?_
  refine J.aload_n 0 d_M_post_10 rfl rfl ?_
  refine J.getF (n := 131) hG d_M_post_11 fl_M_78 ck_109_46 rfl ?_
  refine J.nop (pc' := 14) rfl ?_
  refine J.aload_n 0 d_M_post_14 rfl rfl ?_
  refine J.getI hG d_M_post_15 fl_M_292 ck_109_44 ?_
  refine J.iload_n 2 d_M_post_18 rfl rfl ?_
  obtain ⟨m2, hm2, g, h⟩ := jst_some h
  refine J.is hG d_M_post_19 g hm2 ?_
  refine J.aload_n 0 d_M_post_20 rfl rfl ?_
  refine J.getF (n := 132) hG d_M_post_21 fl_M_81 ck_109_47 rfl ?_
  refine J.aload_n 0 d_M_post_24 rfl rfl ?_
  refine J.getI hG d_M_post_25 fl_M_292 ck_109_44 ?_
  refine J.nop (pc' := 28) rfl ?_
  refine J.iload_n 3 d_M_post_28 rfl rfl ?_
  obtain ⟨m3, hm3, g, h⟩ := jst_some h
  refine J.is hG d_M_post_29 g hm3 ?_
  refine J.aload_n 0 d_M_post_30 rfl rfl ?_
  refine J.getF (n := 133) hG d_M_post_31 fl_M_84 ck_109_48 rfl ?_
  refine J.aload_n 0 d_M_post_34 rfl rfl ?_
  refine J.getI hG d_M_post_35 fl_M_292 ck_109_44 ?_
  refine J.aload_n 0 d_M_post_38 rfl rfl ?_
  refine J.iload_n 2 d_M_post_39 rfl rfl ?_
  refine J.nop (pc' := 40) rfl ?_
  refine J.iload_n 3 d_M_post_40 rfl rfl ?_
  refine J.aload_n 0 d_M_post_41 rfl rfl ?_
  refine J.getI hG d_M_post_42 fl_M_295 ck_109_31 ?_
  refine J.aload_n 0 d_M_post_45 rfl rfl ?_
  refine J.getF (n := 120) hG d_M_post_46 fl_M_45 ck_109_32 rfl ?_
  refine J.bipush (v := (6 : Int32)) d_M_post_49 kb_6 ?_
  refine J.iload_n 2 d_M_post_51 rfl rfl ?_
  refine J.imul d_M_post_52 ?_
  refine J.nop (pc' := 53) rfl ?_
  refine J.iload_n 3 d_M_post_53 rfl rfl ?_
  refine J.iadd d_M_post_54 ?_
  obtain ⟨x4, ex4, g, h⟩ := jld_some h
  refine J.il hG d_M_post_55 g ex4 ?_
  refine J.iadd d_M_post_56 ?_
  obtain ⟨x5, m6, zm6, h⟩ := jbd_some h
  refine J.cVi Y_M_parted (As := [.int v2, .int v3, .int ((m3 109 31) + x4)]) (rest := [.int (m3 109 44), jr G 133]) hG d_M_post_57 mi_M_parted mv_M_parted lk_M_298 ⟨rfl, rfl, Nat.le_of_ble_eq_true rfl⟩ cq_109 cc_10 (c_M_parted hG zm6) rfl (Nat.le_trans (jcI (jcR jcN)) (Nat.le_of_ble_eq_true rfl)) ?_
  obtain ⟨m7, hm7, g, h⟩ := jst_some h
  refine J.is hG d_M_post_60 g hm7 ?_
  refine J.aload_n 0 d_M_post_61 rfl rfl ?_
  refine J.getF (n := 134) hG d_M_post_62 fl_M_87 ck_109_49 rfl ?_
  refine J.nop (pc' := 65) rfl ?_
  refine J.aload_n 0 d_M_post_65 rfl rfl ?_
  refine J.getI hG d_M_post_66 fl_M_292 ck_109_44 ?_
  refine J.iconst (v := (0 : Int32)) d_M_post_69 ki_0 ?_
  obtain ⟨m8, hm8, g, h⟩ := jst_some h
  refine J.is hG d_M_post_70 g hm8 ?_
  refine J.aload_n 0 d_M_post_71 rfl rfl ?_
  refine J.dup d_M_post_72 (jr_cat _ _) ?_
  refine J.getI hG d_M_post_73 fl_M_292 ck_109_44 ?_
  refine J.iconst (v := (1 : Int32)) d_M_post_76 ki_1 ?_
  refine J.nop (pc' := 77) rfl ?_
  refine J.iadd d_M_post_77 ?_
  obtain ⟨m9, hm9, h⟩ := jpu_some h
  refine J.putI hG d_M_post_78 fl_M_292 fp_10_44 ck_109_44 hm9 ?_
  cases h
  exact J.vret d_M_post_81 rfl rfl
