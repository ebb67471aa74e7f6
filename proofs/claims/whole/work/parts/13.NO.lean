def lp_N_moveOver_4 (k57 : jMem → Option (Unit × jMem)) : Nat → Int32 → Int32 → jMem → Option (Unit × jMem)
  | 0, _, _, _ => none
  | n + 1, v2, v3, m =>
    if (30 : Int32) ≤ v3 then
      k57 m
    else
      if v2 = (-1 : Int32) then
        k57 m
      else
        jld 1 m 87 v2 fun x1 =>
        jld 1 m 85 x1 fun x2 =>
        jst 1 m 85 x1 v2 fun m3 =>
        jst 1 m3 86 v2 x1 fun m4 =>
        lp_N_moveOver_4 k57 n x2 (v3 + (1 : Int32)) m4
def f_N_moveOver (v1 : Int32) (m : jMem) : Option (Unit × jMem) :=
  lp_N_moveOver_4 (fun m5 =>
    some ((), m5)) 5000 v1 (0 : Int32) m
theorem jlp_N_moveOver_4 {G : jG} (hG : jFul G) (k57 : jMem → Option (Unit × jMem))
    (hk57 : ∀ (m : jMem) (r : (Unit × jMem)), k57 m = some r → J G Y_N_moveOver 57 [] [] m (jrv r)) : ∀ (n : Nat) (v2 : Int32) (v3 : Int32) (m : jMem) (r : (Unit × jMem)), lp_N_moveOver_4 k57 n v2 v3 m = some r → J G Y_N_moveOver 4 [(0, jr G 84), (2, .int v2), (3, .int v3)] [] m (jrv r) := by
  intro n
  induction n with
  | zero => intro v2 v3 m r h; unfold lp_N_moveOver_4 at h; cases h
  | succ n ih =>
    intro v2 v3 m r h
    unfold lp_N_moveOver_4 at h
    refine J.iload_n 2 d_N_moveOver_4 rfl rfl ?_
    refine J.bipush (v := (30 : Int32)) d_N_moveOver_5 kb_30 ?_
    refine J.icmp_ge 57 d_N_moveOver_7 rfl (fun c => ?_) (fun c => ?_)
    · rw [if_pos c] at h
      exact J.sub (ls' := []) [] rfl (hk57  m _ h)
    · rw [if_neg c] at h
      refine J.iload_n 1 d_N_moveOver_10 rfl rfl ?_
      refine J.iconst (v := (-1 : Int32)) d_N_moveOver_11 ki_m1 ?_
      refine J.icmp_eq 57 d_N_moveOver_12 rfl (fun c => ?_) (fun c => ?_)
      · rw [if_pos c] at h
        exact J.sub (ls' := []) [] rfl (hk57  m _ h)
      · rw [if_neg c] at h
        refine J.aload_n 0 d_N_moveOver_15 rfl rfl ?_
        refine J.getF (n := 87) hG d_N_moveOver_16 fl_N_18 ck_84_3 rfl ?_
        refine J.nop (pc' := 19) rfl ?_
        refine J.iload_n 1 d_N_moveOver_19 rfl rfl ?_
        obtain ⟨x1, ex1, g, h⟩ := jld_some h
        refine J.il hG d_N_moveOver_20 g ex1 ?_
        refine J.istore (lv := [(4, .int x1), (0, jr G 84), (2, .int v2), (3, .int v3)]) d_N_moveOver_21 (by decide) rfl ?_
        refine J.aload_n 1 d_N_moveOver_23 rfl rfl ?_
        refine J.getF (n := 85) hG d_N_moveOver_24 fl_N_9 ck_84_1 rfl ?_
        refine J.iload 0 d_N_moveOver_27 rfl ?_
        obtain ⟨x2, ex2, g, h⟩ := jld_some h
        refine J.il hG d_N_moveOver_29 g ex2 ?_
        refine J.istore (lv := [(5, .int x2), (4, .int x1), (0, jr G 84), (2, .int v2), (3, .int v3)]) d_N_moveOver_30 (by decide) rfl ?_
        refine J.nop (pc' := 32) rfl ?_
        refine J.aload_n 2 d_N_moveOver_32 rfl rfl ?_
        refine J.getF (n := 85) hG d_N_moveOver_33 fl_N_9 ck_84_1 rfl ?_
        refine J.iload 1 d_N_moveOver_36 rfl ?_
        refine J.iload_n 3 d_N_moveOver_38 rfl rfl ?_
        obtain ⟨m3, hm3, g, h⟩ := jst_some h
        refine J.is hG d_N_moveOver_39 g hm3 ?_
        refine J.aload_n 2 d_N_moveOver_40 rfl rfl ?_
        refine J.getF (n := 86) hG d_N_moveOver_41 fl_N_15 ck_84_2 rfl ?_
        refine J.iload_n 3 d_N_moveOver_44 rfl rfl ?_
        refine J.nop (pc' := 45) rfl ?_
        refine J.iload 1 d_N_moveOver_45 rfl ?_
        obtain ⟨m4, hm4, g, h⟩ := jst_some h
        refine J.is hG d_N_moveOver_47 g hm4 ?_
        refine J.iload 0 d_N_moveOver_48 rfl ?_
        refine J.istore_n (lv := [(2, .int x2), (5, .int x2), (4, .int x1), (0, jr G 84), (3, .int v3)]) d_N_moveOver_50 rfl (by decide) rfl ?_
        refine J.iinc 4 (v := (1 : Int32)) (lv := [(3, .int (v3 + (1 : Int32))), (2, .int x2), (5, .int x2), (4, .int x1), (0, jr G 84)]) d_N_moveOver_51 rfl ki_1 (by decide) rfl ?_
        refine J.goto 4 d_N_moveOver_54 rfl ?_
        exact J.sub (ls' := [(0, jr G 84), (2, .int x2), (3, .int (v3 + (1 : Int32)))]) [4, 1, 0] rfl (ih x2 (v3 + (1 : Int32)) m4 _ h)
theorem c_N_moveOver {G : jG} (hG : jFul G) {v1 : Int32} {m : jMem} {r : (Unit × jMem)} (h : f_N_moveOver v1 m = some r) : jCt G Y_N_moveOver [jr G 84, .int v1] m (jrv r) := by
  refine jCt.ov (ls := [(0, jr G 84), (1, .int v1)]) mi_N_moveOver (jAvR (jAvI jAvN)) (Nat.le_of_ble_eq_true rfl) ?_ ⟨rfl, rfl⟩
  unfold f_N_moveOver at h
  refine J.iload_n 1 d_N_moveOver_0 rfl rfl ?_
  refine J.istore_n (lv := [(2, .int v1), (0, jr G 84), (1, .int v1)]) d_N_moveOver_1 rfl (by decide) rfl ?_
  refine J.iconst (v := (0 : Int32)) d_N_moveOver_2 ki_0 ?_
  refine J.istore_n (lv := [(3, .int (0 : Int32)), (2, .int v1), (0, jr G 84), (1, .int v1)]) d_N_moveOver_3 rfl (by decide) rfl ?_
  refine J.sub (ls' := [(0, jr G 84), (2, .int v1), (3, .int (0 : Int32))]) [2, 1, 0] rfl ?_
  refine jlp_N_moveOver_4 hG _ ?_ _ v1 (0 : Int32) m _ h
  intro m5 r h
  cases h
  exact J.vret d_N_moveOver_57 rfl rfl

def lp_N_putOneBehind_31 (v2 : Int32) (v5 : Int32) (k115 : Int32 → jMem → Option (Int32 × jMem)) (k151 : Int32 → Int32 → jMem → Option (Int32 × jMem)) : Nat → Int32 → Int32 → Int32 → jMem → Option (Int32 × jMem)
  | 0, _, _, _, _ => none
  | n + 1, v3, v4, v6, m =>
    if (m 29 15) ≤ v6 then
      k151 v3 v4 m
    else
      jbd (f_C_isIn (v2 &&& (v4 ^^^ (-1 : Int32))) v6 m) fun x2 m3 =>
      if x2 = 0 then
        lp_N_putOneBehind_31 v2 v5 k115 k151 n v3 v4 (v6 + (1 : Int32)) m3
      else
        jld 1 m3 37 v6 fun x4 =>
        jld 1 m3 88 v5 fun x5 =>
        jbd (f_C_isIn x4 x5 m3) fun x6 m7 =>
        if x6 = 0 then
          lp_N_putOneBehind_31 v2 v5 k115 k151 n v3 v4 (v6 + (1 : Int32)) m7
        else
          jbd (f_C_bit v6 m7) fun x8 m9 =>
          jld 1 m9 88 v5 fun x10 =>
          jst 1 m9 87 v6 x10 fun m11 =>
          jld 1 m11 86 v6 fun x12 =>
          if x12 = (-1 : Int32) then
            k115 v6 m11
          else
            if (30 : Int32) ≤ v3 then
              lp_N_putOneBehind_31 v2 v5 k115 k151 n v3 (v4 ||| x8) (v6 + (1 : Int32)) m11
            else
              jld 1 m11 86 v6 fun x13 =>
              jst 1 m11 88 v3 x13 fun m14 =>
              lp_N_putOneBehind_31 v2 v5 k115 k151 n (v3 + (1 : Int32)) (v4 ||| x8) (v6 + (1 : Int32)) m14
def lp_N_putOneBehind_15 (v2 : Int32) (k115 : Int32 → jMem → Option (Int32 × jMem)) (k157 : jMem → Option (Int32 × jMem)) : Nat → Int32 → Int32 → Int32 → jMem → Option (Int32 × jMem)
  | 0, _, _, _, _ => none
  | n + 1, v3, v4, v5, m =>
    if v3 ≤ v5 then
      k157 m
    else
      if (30 : Int32) ≤ v5 then
        k157 m
      else
        lp_N_putOneBehind_31 v2 v5 (fun w16 m15 =>
          k115 w16 m15) (fun w18 w19 m17 =>
          lp_N_putOneBehind_15 v2 k115 k157 n w18 w19 (v5 + (1 : Int32)) m17) 5000 v3 v4 (0 : Int32) m
def f_N_putOneBehind (v1 : Int32) (v2 : Int32) (m : jMem) : Option (Int32 × jMem) :=
  jst 1 m 88 (0 : Int32) v1 fun m1 =>
  lp_N_putOneBehind_15 v2 (fun w21 m20 =>
    jbd (f_N_moveOver w21 m20) fun u22 m23 =>
    some ((1 : Int32), m23)) (fun m24 =>
    some ((0 : Int32), m24)) 5000 (1 : Int32) (0 : Int32) (0 : Int32) m1
theorem jlp_N_putOneBehind_31 {G : jG} (hG : jFul G) (v2 : Int32) (v5 : Int32) (k115 : Int32 → jMem → Option (Int32 × jMem)) (k151 : Int32 → Int32 → jMem → Option (Int32 × jMem))
    (hk115 : ∀ (v6 : Int32) (m : jMem) (r : (Int32 × jMem)), k115 v6 m = some r → J G Y_N_putOneBehind 115 [(0, jr G 84), (6, .int v6)] [] m (jri r))
    (hk151 : ∀ (v3 : Int32) (v4 : Int32) (m : jMem) (r : (Int32 × jMem)), k151 v3 v4 m = some r → J G Y_N_putOneBehind 151 [(0, jr G 84), (2, .int v2), (3, .int v3), (4, .int v4), (5, .int v5)] [] m (jri r)) : ∀ (n : Nat) (v3 : Int32) (v4 : Int32) (v6 : Int32) (m : jMem) (r : (Int32 × jMem)), lp_N_putOneBehind_31 v2 v5 k115 k151 n v3 v4 v6 m = some r → J G Y_N_putOneBehind 31 [(0, jr G 84), (2, .int v2), (3, .int v3), (4, .int v4), (5, .int v5), (6, .int v6)] [] m (jri r) := by
  intro n
  induction n with
  | zero => intro v3 v4 v6 m r h; unfold lp_N_putOneBehind_31 at h; cases h
  | succ n ih =>
    intro v3 v4 v6 m r h
    unfold lp_N_putOneBehind_31 at h
    refine J.iload 5 d_N_putOneBehind_31 rfl ?_
    refine J.aload_n 0 d_N_putOneBehind_33 rfl rfl ?_
    refine J.getF (n := 29) hG d_N_putOneBehind_34 fl_N_24 ck_84_0 rfl ?_
    refine J.getI hG d_N_putOneBehind_37 fl_N_34 ck_29_15 ?_
    refine J.icmp_ge 151 d_N_putOneBehind_40 rfl (fun c => ?_) (fun c => ?_)
    · rw [if_pos c] at h
      exact J.sub (ls' := [(0, jr G 84), (2, .int v2), (3, .int v3), (4, .int v4), (5, .int v5)]) [0, 1, 2, 3, 4] rfl (hk151 v3 v4 m _ h)
    · rw [if_neg c] at h
      refine J.iload_n 1 d_N_putOneBehind_43 rfl rfl ?_
      refine J.iload 3 d_N_putOneBehind_44 rfl ?_
      refine J.iconst (v := (-1 : Int32)) d_N_putOneBehind_46 ki_m1 ?_
      refine J.nop (pc' := 47) rfl ?_
      refine J.ixor d_N_putOneBehind_47 ?_
      refine J.iand d_N_putOneBehind_48 ?_
      refine J.iload 5 d_N_putOneBehind_49 rfl ?_
      obtain ⟨x2, m3, zm3, h⟩ := jbd_some h
      refine J.cSi Y_C_isIn (As := [.int (v2 &&& (v4 ^^^ (-1 : Int32))), .int v6]) (rest := []) d_N_putOneBehind_51 mi_C_isIn ms_C_isIn lk_N_40 ⟨rfl, rfl, Nat.le_of_ble_eq_true rfl⟩ (c_C_isIn hG zm3) rfl (Nat.le_trans jcN (Nat.le_of_ble_eq_true rfl)) ?_
      refine J.if_eq 145 d_N_putOneBehind_54 rfl (fun c => ?_) (fun c => ?_)
      · rw [if_pos c] at h
        refine J.iinc 5 (v := (1 : Int32)) (lv := [(6, .int (v6 + (1 : Int32))), (0, jr G 84), (2, .int v2), (3, .int v3), (4, .int v4), (5, .int v5)]) d_N_putOneBehind_145 rfl ki_1 (by decide) rfl ?_
        refine J.goto 31 d_N_putOneBehind_148 rfl ?_
        exact J.sub (ls' := [(0, jr G 84), (2, .int v2), (3, .int v3), (4, .int v4), (5, .int v5), (6, .int (v6 + (1 : Int32)))]) [1, 2, 3, 4, 5, 0] rfl (ih v3 v4 (v6 + (1 : Int32)) m3 _ h)
      · rw [if_neg c] at h
        refine J.aload_n 0 d_N_putOneBehind_57 rfl rfl ?_
        refine J.getF (n := 29) hG d_N_putOneBehind_58 fl_N_24 ck_84_0 rfl ?_
        refine J.getF (n := 37) hG d_N_putOneBehind_61 fl_N_51 ck_29_7 rfl ?_
        refine J.nop (pc' := 64) rfl ?_
        refine J.iload 5 d_N_putOneBehind_64 rfl ?_
        obtain ⟨x4, ex4, g, h⟩ := jld_some h
        refine J.il hG d_N_putOneBehind_66 g ex4 ?_
        refine J.aload_n 0 d_N_putOneBehind_67 rfl rfl ?_
        refine J.getF (n := 88) hG d_N_putOneBehind_68 fl_N_21 ck_84_4 rfl ?_
        refine J.iload 4 d_N_putOneBehind_71 rfl ?_
        obtain ⟨x5, ex5, g, h⟩ := jld_some h
        refine J.il hG d_N_putOneBehind_73 g ex5 ?_
        obtain ⟨x6, m7, zm7, h⟩ := jbd_some h
        refine J.cSi Y_C_isIn (As := [.int x4, .int x5]) (rest := []) d_N_putOneBehind_74 mi_C_isIn ms_C_isIn lk_N_40 ⟨rfl, rfl, Nat.le_of_ble_eq_true rfl⟩ (c_C_isIn hG zm7) rfl (Nat.le_trans jcN (Nat.le_of_ble_eq_true rfl)) ?_
        refine J.if_eq 145 d_N_putOneBehind_77 rfl (fun c => ?_) (fun c => ?_)
        · rw [if_pos c] at h
          refine J.iinc 5 (v := (1 : Int32)) (lv := [(6, .int (v6 + (1 : Int32))), (0, jr G 84), (2, .int v2), (3, .int v3), (4, .int v4), (5, .int v5)]) d_N_putOneBehind_145 rfl ki_1 (by decide) rfl ?_
          refine J.goto 31 d_N_putOneBehind_148 rfl ?_
          exact J.sub (ls' := [(0, jr G 84), (2, .int v2), (3, .int v3), (4, .int v4), (5, .int v5), (6, .int (v6 + (1 : Int32)))]) [1, 2, 3, 4, 5, 0] rfl (ih v3 v4 (v6 + (1 : Int32)) m7 _ h)
        · rw [if_neg c] at h
          refine J.nop (pc' := 80) rfl ?_
          refine J.iload 3 d_N_putOneBehind_80 rfl ?_
          refine J.iload 5 d_N_putOneBehind_82 rfl ?_
          obtain ⟨x8, m9, zm9, h⟩ := jbd_some h
          refine J.cSi Y_C_bit (As := [.int v6]) (rest := [.int v4]) d_N_putOneBehind_84 mi_C_bit ms_C_bit lk_N_54 ⟨rfl, rfl, Nat.le_of_ble_eq_true rfl⟩ (c_C_bit hG zm9) rfl (Nat.le_trans (jcI jcN) (Nat.le_of_ble_eq_true rfl)) ?_
          refine J.ior d_N_putOneBehind_87 ?_
          refine J.istore (lv := [(4, .int (v4 ||| x8)), (0, jr G 84), (2, .int v2), (3, .int v3), (5, .int v5), (6, .int v6)]) d_N_putOneBehind_88 (by decide) rfl ?_
          refine J.aload_n 1 d_N_putOneBehind_90 rfl rfl ?_
          refine J.getF (n := 87) hG d_N_putOneBehind_91 fl_N_18 ck_84_3 rfl ?_
          refine J.iload 5 d_N_putOneBehind_94 rfl ?_
          refine J.nop (pc' := 96) rfl ?_
          refine J.aload_n 1 d_N_putOneBehind_96 rfl rfl ?_
          refine J.getF (n := 88) hG d_N_putOneBehind_97 fl_N_21 ck_84_4 rfl ?_
          refine J.iload 4 d_N_putOneBehind_100 rfl ?_
          obtain ⟨x10, ex10, g, h⟩ := jld_some h
          refine J.il hG d_N_putOneBehind_102 g ex10 ?_
          obtain ⟨m11, hm11, g, h⟩ := jst_some h
          refine J.is hG d_N_putOneBehind_103 g hm11 ?_
          refine J.aload_n 1 d_N_putOneBehind_104 rfl rfl ?_
          refine J.getF (n := 86) hG d_N_putOneBehind_105 fl_N_15 ck_84_2 rfl ?_
          refine J.iload 5 d_N_putOneBehind_108 rfl ?_
          refine J.nop (pc' := 110) rfl ?_
          obtain ⟨x12, ex12, g, h⟩ := jld_some h
          refine J.il hG d_N_putOneBehind_110 g ex12 ?_
          refine J.iconst (v := (-1 : Int32)) d_N_putOneBehind_111 ki_m1 ?_
          refine J.icmp_ne 123 d_N_putOneBehind_112 rfl (fun c => ?_) (fun c => ?_)
          · rw [if_neg c] at h
            refine J.iload_n 3 d_N_putOneBehind_123 rfl rfl ?_
            refine J.bipush (v := (30 : Int32)) d_N_putOneBehind_124 kb_30 ?_
            refine J.icmp_ge 145 d_N_putOneBehind_126 rfl (fun c => ?_) (fun c => ?_)
            · rw [if_pos c] at h
              refine J.iinc 5 (v := (1 : Int32)) (lv := [(6, .int (v6 + (1 : Int32))), (4, .int (v4 ||| x8)), (0, jr G 84), (2, .int v2), (3, .int v3), (5, .int v5)]) d_N_putOneBehind_145 rfl ki_1 (by decide) rfl ?_
              refine J.goto 31 d_N_putOneBehind_148 rfl ?_
              exact J.sub (ls' := [(0, jr G 84), (2, .int v2), (3, .int v3), (4, .int (v4 ||| x8)), (5, .int v5), (6, .int (v6 + (1 : Int32)))]) [2, 3, 4, 1, 5, 0] rfl (ih v3 (v4 ||| x8) (v6 + (1 : Int32)) m11 _ h)
            · rw [if_neg c] at h
              refine J.aload_n 1 d_N_putOneBehind_129 rfl rfl ?_
              refine J.getF (n := 88) hG d_N_putOneBehind_130 fl_N_21 ck_84_4 rfl ?_
              refine J.iload_n 3 d_N_putOneBehind_133 rfl rfl ?_
              refine J.aload_n 1 d_N_putOneBehind_134 rfl rfl ?_
              refine J.getF (n := 86) hG d_N_putOneBehind_135 fl_N_15 ck_84_2 rfl ?_
              refine J.nop (pc' := 138) rfl ?_
              refine J.iload 5 d_N_putOneBehind_138 rfl ?_
              obtain ⟨x13, ex13, g, h⟩ := jld_some h
              refine J.il hG d_N_putOneBehind_140 g ex13 ?_
              obtain ⟨m14, hm14, g, h⟩ := jst_some h
              refine J.is hG d_N_putOneBehind_141 g hm14 ?_
              refine J.iinc 3 (v := (1 : Int32)) (lv := [(3, .int (v3 + (1 : Int32))), (4, .int (v4 ||| x8)), (0, jr G 84), (2, .int v2), (5, .int v5), (6, .int v6)]) d_N_putOneBehind_142 rfl ki_1 (by decide) rfl ?_
              refine J.iinc 5 (v := (1 : Int32)) (lv := [(6, .int (v6 + (1 : Int32))), (3, .int (v3 + (1 : Int32))), (4, .int (v4 ||| x8)), (0, jr G 84), (2, .int v2), (5, .int v5)]) d_N_putOneBehind_145 rfl ki_1 (by decide) rfl ?_
              refine J.goto 31 d_N_putOneBehind_148 rfl ?_
              exact J.sub (ls' := [(0, jr G 84), (2, .int v2), (3, .int (v3 + (1 : Int32))), (4, .int (v4 ||| x8)), (5, .int v5), (6, .int (v6 + (1 : Int32)))]) [3, 4, 1, 2, 5, 0] rfl (ih (v3 + (1 : Int32)) (v4 ||| x8) (v6 + (1 : Int32)) m14 _ h)
          · rw [if_pos c] at h
            exact J.sub (ls' := [(0, jr G 84), (6, .int v6)]) [1, 5] rfl (hk115 v6 m11 _ h)
theorem jlp_N_putOneBehind_15 {G : jG} (hG : jFul G) (v2 : Int32) (k115 : Int32 → jMem → Option (Int32 × jMem)) (k157 : jMem → Option (Int32 × jMem))
    (hk115 : ∀ (v6 : Int32) (m : jMem) (r : (Int32 × jMem)), k115 v6 m = some r → J G Y_N_putOneBehind 115 [(0, jr G 84), (6, .int v6)] [] m (jri r))
    (hk157 : ∀ (m : jMem) (r : (Int32 × jMem)), k157 m = some r → J G Y_N_putOneBehind 157 [] [] m (jri r)) : ∀ (n : Nat) (v3 : Int32) (v4 : Int32) (v5 : Int32) (m : jMem) (r : (Int32 × jMem)), lp_N_putOneBehind_15 v2 k115 k157 n v3 v4 v5 m = some r → J G Y_N_putOneBehind 15 [(0, jr G 84), (2, .int v2), (3, .int v3), (4, .int v4), (5, .int v5)] [] m (jri r) := by
  intro n
  induction n with
  | zero => intro v3 v4 v5 m r h; unfold lp_N_putOneBehind_15 at h; cases h
  | succ n ih =>
    intro v3 v4 v5 m r h
    unfold lp_N_putOneBehind_15 at h
    refine J.iload 4 d_N_putOneBehind_15 rfl ?_
    refine J.iload_n 2 d_N_putOneBehind_17 rfl rfl ?_
    refine J.icmp_ge 157 d_N_putOneBehind_18 rfl (fun c => ?_) (fun c => ?_)
    · rw [if_pos c] at h
      exact J.sub (ls' := []) [] rfl (hk157  m _ h)
    · rw [if_neg c] at h
      refine J.iload 4 d_N_putOneBehind_21 rfl ?_
      refine J.bipush (v := (30 : Int32)) d_N_putOneBehind_23 kb_30 ?_
      refine J.icmp_ge 157 d_N_putOneBehind_25 rfl (fun c => ?_) (fun c => ?_)
      · rw [if_pos c] at h
        exact J.sub (ls' := []) [] rfl (hk157  m _ h)
      · rw [if_neg c] at h
        refine J.iconst (v := (0 : Int32)) d_N_putOneBehind_28 ki_0 ?_
        refine J.istore (lv := [(6, .int (0 : Int32)), (0, jr G 84), (2, .int v2), (3, .int v3), (4, .int v4), (5, .int v5)]) d_N_putOneBehind_29 (by decide) rfl ?_
        refine J.sub (ls' := [(0, jr G 84), (2, .int v2), (3, .int v3), (4, .int v4), (5, .int v5), (6, .int (0 : Int32))]) [1, 2, 3, 4, 5, 0] rfl ?_
        refine jlp_N_putOneBehind_31 hG v2 v5 _ _ ?_ ?_ _ v3 v4 (0 : Int32) m _ h
        · intro w16 m15 r h
          exact J.sub (ls' := [(0, jr G 84), (6, .int w16)]) [0, 1] rfl (hk115 w16 m15 _ h)
        · intro w18 w19 m17 r h
          refine J.iinc 4 (v := (1 : Int32)) (lv := [(5, .int (v5 + (1 : Int32))), (0, jr G 84), (2, .int v2), (3, .int w18), (4, .int w19)]) d_N_putOneBehind_151 rfl ki_1 (by decide) rfl ?_
          refine J.goto 15 d_N_putOneBehind_154 rfl ?_
          exact J.sub (ls' := [(0, jr G 84), (2, .int v2), (3, .int w18), (4, .int w19), (5, .int (v5 + (1 : Int32)))]) [1, 2, 3, 4, 0] rfl (ih w18 w19 (v5 + (1 : Int32)) m17 _ h)
theorem c_N_putOneBehind {G : jG} (hG : jFul G) {v1 : Int32} {v2 : Int32} {m : jMem} {r : (Int32 × jMem)} (h : f_N_putOneBehind v1 v2 m = some r) : jCt G Y_N_putOneBehind [jr G 84, .int v1, .int v2] m (jri r) := by
  refine jCt.ov (ls := [(0, jr G 84), (1, .int v1), (2, .int v2)]) mi_N_putOneBehind (jAvR (jAvI (jAvI jAvN))) (Nat.le_of_ble_eq_true rfl) ?_ ⟨rfl, rfl⟩
  unfold f_N_putOneBehind at h
  refine J.iconst (v := (1 : Int32)) d_N_putOneBehind_0 ki_1 ?_
  refine J.istore_n (lv := [(3, .int (1 : Int32)), (0, jr G 84), (1, .int v1), (2, .int v2)]) d_N_putOneBehind_1 rfl (by decide) rfl ?_
  refine J.iconst (v := (0 : Int32)) d_N_putOneBehind_2 ki_0 ?_
  refine J.istore (lv := [(4, .int (0 : Int32)), (3, .int (1 : Int32)), (0, jr G 84), (1, .int v1), (2, .int v2)]) d_N_putOneBehind_3 (by decide) rfl ?_
  refine J.aload_n 2 d_N_putOneBehind_5 rfl rfl ?_
  refine J.getF (n := 88) hG d_N_putOneBehind_6 fl_N_21 ck_84_4 rfl ?_
  refine J.iconst (v := (0 : Int32)) d_N_putOneBehind_9 ki_0 ?_
  refine J.iload_n 3 d_N_putOneBehind_10 rfl rfl ?_
  refine J.nop (pc' := 11) rfl ?_
  obtain ⟨m1, hm1, g, h⟩ := jst_some h
  refine J.is hG d_N_putOneBehind_11 g hm1 ?_
  refine J.iconst (v := (0 : Int32)) d_N_putOneBehind_12 ki_0 ?_
  refine J.istore (lv := [(5, .int (0 : Int32)), (4, .int (0 : Int32)), (3, .int (1 : Int32)), (0, jr G 84), (1, .int v1), (2, .int v2)]) d_N_putOneBehind_13 (by decide) rfl ?_
  refine J.sub (ls' := [(0, jr G 84), (2, .int v2), (3, .int (1 : Int32)), (4, .int (0 : Int32)), (5, .int (0 : Int32))]) [3, 5, 2, 1, 0] rfl ?_
  refine jlp_N_putOneBehind_15 hG v2 _ _ ?_ ?_ _ (1 : Int32) (0 : Int32) (0 : Int32) m1 _ h
  · intro w21 m20 r h
    refine J.aload_n 0 d_N_putOneBehind_115 rfl rfl ?_
    refine J.iload 1 d_N_putOneBehind_116 rfl ?_
    obtain ⟨u22, m23, zm23, h⟩ := jbd_some h
    refine J.cVv Y_N_moveOver (As := [.int w21]) (rest := []) hG d_N_putOneBehind_118 mi_N_moveOver mv_N_moveOver lk_N_57 ⟨rfl, rfl, Nat.le_of_ble_eq_true rfl⟩ cq_84 cc_8 (c_N_moveOver hG zm23) rfl (Nat.le_trans jcN (Nat.le_of_ble_eq_true rfl)) ?_
    refine J.iconst (v := (1 : Int32)) d_N_putOneBehind_121 ki_1 ?_
    cases h
    exact J.iret d_N_putOneBehind_122 rfl rfl rfl
  · intro m24 r h
    refine J.iconst (v := (0 : Int32)) d_N_putOneBehind_157 ki_0 ?_
    cases h
    exact J.iret d_N_putOneBehind_158 rfl rfl rfl

def lp_N_fewest_2 (v1 : Int32) (k28 : jMem → Option (Int32 × jMem)) : Nat → Int32 → jMem → Option (Int32 × jMem)
  | 0, _, _ => none
  | n + 1, v2, m =>
    if (30 : Int32) ≤ v2 then
      k28 m
    else
      jst 1 m 85 v2 (-1 : Int32) fun m1 =>
      jst 1 m1 86 v2 (-1 : Int32) fun m2 =>
      lp_N_fewest_2 v1 k28 n (v2 + (1 : Int32)) m2
def lp_N_fewest_35 (v1 : Int32) (k72 : Int32 → jMem → Option (Int32 × jMem)) : Nat → Int32 → Int32 → jMem → Option (Int32 × jMem)
  | 0, _, _, _ => none
  | n + 1, v2, v3, m =>
    if (m 29 15) ≤ v3 then
      k72 v2 m
    else
      jbd (f_C_isIn v1 v3 m) fun x6 m7 =>
      if x6 = 0 then
        lp_N_fewest_35 v1 k72 n v2 (v3 + (1 : Int32)) m7
      else
        jbd (f_N_putOneBehind v3 v1 m7) fun x8 m9 =>
        jbd (f_C_truth x8 m9) fun x10 m11 =>
        lp_N_fewest_35 v1 k72 n (v2 - x10) (v3 + (1 : Int32)) m11
def f_N_fewest (v1 : Int32) (m : jMem) : Option (Int32 × jMem) :=
  lp_N_fewest_2 v1 (fun m3 =>
    jbd (f_JI_bitCount v1 m3) fun x4 m5 =>
    lp_N_fewest_35 v1 (fun w13 m12 =>
      some (w13, m12)) 5000 x4 (0 : Int32) m5) 5000 (0 : Int32) m
theorem jlp_N_fewest_2 {G : jG} (hG : jFul G) (v1 : Int32) (k28 : jMem → Option (Int32 × jMem))
    (hk28 : ∀ (m : jMem) (r : (Int32 × jMem)), k28 m = some r → J G Y_N_fewest 28 [(0, jr G 84), (1, .int v1)] [] m (jri r)) : ∀ (n : Nat) (v2 : Int32) (m : jMem) (r : (Int32 × jMem)), lp_N_fewest_2 v1 k28 n v2 m = some r → J G Y_N_fewest 2 [(0, jr G 84), (1, .int v1), (2, .int v2)] [] m (jri r) := by
  intro n
  induction n with
  | zero => intro v2 m r h; unfold lp_N_fewest_2 at h; cases h
  | succ n ih =>
    intro v2 m r h
    unfold lp_N_fewest_2 at h
    refine J.iload_n 2 d_N_fewest_2 rfl rfl ?_
    refine J.bipush (v := (30 : Int32)) d_N_fewest_3 kb_30 ?_
    refine J.icmp_ge 28 d_N_fewest_5 rfl (fun c => ?_) (fun c => ?_)
    · rw [if_pos c] at h
      exact J.sub (ls' := [(0, jr G 84), (1, .int v1)]) [0, 1] rfl (hk28  m _ h)
    · rw [if_neg c] at h
      refine J.aload_n 0 d_N_fewest_8 rfl rfl ?_
      refine J.getF (n := 85) hG d_N_fewest_9 fl_N_9 ck_84_1 rfl ?_
      refine J.iload_n 2 d_N_fewest_12 rfl rfl ?_
      refine J.iconst (v := (-1 : Int32)) d_N_fewest_13 ki_m1 ?_
      obtain ⟨m1, hm1, g, h⟩ := jst_some h
      refine J.is hG d_N_fewest_14 g hm1 ?_
      refine J.nop (pc' := 15) rfl ?_
      refine J.aload_n 0 d_N_fewest_15 rfl rfl ?_
      refine J.getF (n := 86) hG d_N_fewest_16 fl_N_15 ck_84_2 rfl ?_
      refine J.iload_n 2 d_N_fewest_19 rfl rfl ?_
      refine J.iconst (v := (-1 : Int32)) d_N_fewest_20 ki_m1 ?_
      obtain ⟨m2, hm2, g, h⟩ := jst_some h
      refine J.is hG d_N_fewest_21 g hm2 ?_
      refine J.iinc 2 (v := (1 : Int32)) (lv := [(2, .int (v2 + (1 : Int32))), (0, jr G 84), (1, .int v1)]) d_N_fewest_22 rfl ki_1 (by decide) rfl ?_
      refine J.goto 2 d_N_fewest_25 rfl ?_
      exact J.sub (ls' := [(0, jr G 84), (1, .int v1), (2, .int (v2 + (1 : Int32)))]) [1, 2, 0] rfl (ih (v2 + (1 : Int32)) m2 _ h)
theorem jlp_N_fewest_35 {G : jG} (hG : jFul G) (v1 : Int32) (k72 : Int32 → jMem → Option (Int32 × jMem))
    (hk72 : ∀ (v2 : Int32) (m : jMem) (r : (Int32 × jMem)), k72 v2 m = some r → J G Y_N_fewest 72 [(2, .int v2)] [] m (jri r)) : ∀ (n : Nat) (v2 : Int32) (v3 : Int32) (m : jMem) (r : (Int32 × jMem)), lp_N_fewest_35 v1 k72 n v2 v3 m = some r → J G Y_N_fewest 35 [(0, jr G 84), (1, .int v1), (2, .int v2), (3, .int v3)] [] m (jri r) := by
  intro n
  induction n with
  | zero => intro v2 v3 m r h; unfold lp_N_fewest_35 at h; cases h
  | succ n ih =>
    intro v2 v3 m r h
    unfold lp_N_fewest_35 at h
    refine J.iload_n 3 d_N_fewest_35 rfl rfl ?_
    refine J.aload_n 0 d_N_fewest_36 rfl rfl ?_
    refine J.getF (n := 29) hG d_N_fewest_37 fl_N_24 ck_84_0 rfl ?_
    refine J.getI hG d_N_fewest_40 fl_N_34 ck_29_15 ?_
    refine J.icmp_ge 72 d_N_fewest_43 rfl (fun c => ?_) (fun c => ?_)
    · rw [if_pos c] at h
      exact J.sub (ls' := [(2, .int v2)]) [2] rfl (hk72 v2 m _ h)
    · rw [if_neg c] at h
      refine J.iload_n 1 d_N_fewest_46 rfl rfl ?_
      refine J.iload_n 3 d_N_fewest_47 rfl rfl ?_
      obtain ⟨x6, m7, zm7, h⟩ := jbd_some h
      refine J.cSi Y_C_isIn (As := [.int v1, .int v3]) (rest := []) d_N_fewest_48 mi_C_isIn ms_C_isIn lk_N_40 ⟨rfl, rfl, Nat.le_of_ble_eq_true rfl⟩ (c_C_isIn hG zm7) rfl (Nat.le_trans jcN (Nat.le_of_ble_eq_true rfl)) ?_
      refine J.nop (pc' := 51) rfl ?_
      refine J.if_eq 66 d_N_fewest_51 rfl (fun c => ?_) (fun c => ?_)
      · rw [if_pos c] at h
        refine J.iinc 3 (v := (1 : Int32)) (lv := [(3, .int (v3 + (1 : Int32))), (0, jr G 84), (1, .int v1), (2, .int v2)]) d_N_fewest_66 rfl ki_1 (by decide) rfl ?_
        refine J.goto 35 d_N_fewest_69 rfl ?_
        exact J.sub (ls' := [(0, jr G 84), (1, .int v1), (2, .int v2), (3, .int (v3 + (1 : Int32)))]) [1, 2, 3, 0] rfl (ih v2 (v3 + (1 : Int32)) m7 _ h)
      · rw [if_neg c] at h
        refine J.iload_n 2 d_N_fewest_54 rfl rfl ?_
        refine J.aload_n 0 d_N_fewest_55 rfl rfl ?_
        refine J.iload_n 3 d_N_fewest_56 rfl rfl ?_
        refine J.iload_n 1 d_N_fewest_57 rfl rfl ?_
        obtain ⟨x8, m9, zm9, h⟩ := jbd_some h
        refine J.cVi Y_N_putOneBehind (As := [.int v3, .int v1]) (rest := [.int v2]) hG d_N_fewest_58 mi_N_putOneBehind mv_N_putOneBehind lk_N_44 ⟨rfl, rfl, Nat.le_of_ble_eq_true rfl⟩ cq_84 cc_8 (c_N_putOneBehind hG zm9) rfl (Nat.le_trans (jcI jcN) (Nat.le_of_ble_eq_true rfl)) ?_
        obtain ⟨x10, m11, zm11, h⟩ := jbd_some h
        refine J.cSi Y_C_truth (As := [.int x8]) (rest := [.int v2]) d_N_fewest_61 mi_C_truth ms_C_truth lk_N_47 ⟨rfl, rfl, Nat.le_of_ble_eq_true rfl⟩ (c_C_truth hG zm11) rfl (Nat.le_trans (jcI jcN) (Nat.le_of_ble_eq_true rfl)) ?_
        refine J.isub d_N_fewest_64 ?_
        refine J.nop (pc' := 65) rfl ?_
        refine J.istore_n (lv := [(2, .int (v2 - x10)), (0, jr G 84), (1, .int v1), (3, .int v3)]) d_N_fewest_65 rfl (by decide) rfl ?_
        refine J.iinc 3 (v := (1 : Int32)) (lv := [(3, .int (v3 + (1 : Int32))), (2, .int (v2 - x10)), (0, jr G 84), (1, .int v1)]) d_N_fewest_66 rfl ki_1 (by decide) rfl ?_
        refine J.goto 35 d_N_fewest_69 rfl ?_
        exact J.sub (ls' := [(0, jr G 84), (1, .int v1), (2, .int (v2 - x10)), (3, .int (v3 + (1 : Int32)))]) [2, 3, 1, 0] rfl (ih (v2 - x10) (v3 + (1 : Int32)) m11 _ h)
theorem c_N_fewest {G : jG} (hG : jFul G) {v1 : Int32} {m : jMem} {r : (Int32 × jMem)} (h : f_N_fewest v1 m = some r) : jCt G Y_N_fewest [jr G 84, .int v1] m (jri r) := by
  refine jCt.ov (ls := [(0, jr G 84), (1, .int v1)]) mi_N_fewest (jAvR (jAvI jAvN)) (Nat.le_of_ble_eq_true rfl) ?_ ⟨rfl, rfl⟩
  unfold f_N_fewest at h
  refine J.iconst (v := (0 : Int32)) d_N_fewest_0 ki_0 ?_
  refine J.istore_n (lv := [(2, .int (0 : Int32)), (0, jr G 84), (1, .int v1)]) d_N_fewest_1 rfl (by decide) rfl ?_
  refine J.sub (ls' := [(0, jr G 84), (1, .int v1), (2, .int (0 : Int32))]) [1, 2, 0] rfl ?_
  refine jlp_N_fewest_2 hG v1 _ ?_ _ (0 : Int32) m _ h
  intro m3 r h
  refine J.iload_n 1 d_N_fewest_28 rfl rfl ?_
  obtain ⟨x4, m5, zm5, h⟩ := jbd_some h
  refine J.cSi Y_JI_bitCount (As := [.int v1]) (rest := []) d_N_fewest_29 mi_JI_bitCount ms_JI_bitCount lk_N_28 ⟨rfl, rfl, Nat.le_of_ble_eq_true rfl⟩ (c_JI_bitCount hG zm5) rfl (Nat.le_trans jcN (Nat.le_of_ble_eq_true rfl)) ?_
  refine J.istore_n (lv := [(2, .int x4), (0, jr G 84), (1, .int v1)]) d_N_fewest_32 rfl (by decide) rfl ?_
  refine J.iconst (v := (0 : Int32)) d_N_fewest_33 ki_0 ?_
  refine J.istore_n (lv := [(3, .int (0 : Int32)), (2, .int x4), (0, jr G 84), (1, .int v1)]) d_N_fewest_34 rfl (by decide) rfl ?_
  refine J.sub (ls' := [(0, jr G 84), (1, .int v1), (2, .int x4), (3, .int (0 : Int32))]) [2, 3, 1, 0] rfl ?_
  refine jlp_N_fewest_35 hG v1 _ ?_ _ x4 (0 : Int32) m5 _ h
  intro w13 m12 r h
  refine J.iload_n 0 d_N_fewest_72 rfl rfl ?_
  cases h
  exact J.iret d_N_fewest_73 rfl (vp_nar_int _) rfl

def lp_O_goesAgainst_18 (v1 : Int32) (v4 : Int32) (k59 : Int32 → jMem → Option (Int32 × jMem)) : Nat → Int32 → Int32 → jMem → Option (Int32 × jMem)
  | 0, _, _, _ => none
  | n + 1, v3, v5, m =>
    if (m 29 15) ≤ v5 then
      k59 v3 m
    else
      jld 1 m 37 v5 fun x3 =>
      if (x3 &&& v3) = 0 then
        lp_O_goesAgainst_18 v1 v4 k59 n v3 (v5 + (1 : Int32)) m
      else
        jbd (f_C_bit v5 m) fun x4 m5 =>
        lp_O_goesAgainst_18 v1 v4 k59 n (v3 ||| x4) (v5 + (1 : Int32)) m5
def lp_O_goesAgainst_62 (v1 : Int32) (v4 : Int32) (k104 : Int32 → jMem → Option (Int32 × jMem)) : Nat → Int32 → Int32 → jMem → Option (Int32 × jMem)
  | 0, _, _, _ => none
  | n + 1, v3, v5, m =>
    if (m 89 3) ≤ v5 then
      k104 v3 m
    else
      jld 1 m 90 v5 fun x8 =>
      jbd (f_C_isIn v3 x8 m) fun x9 m10 =>
      if x9 = 0 then
        lp_O_goesAgainst_62 v1 v4 k104 n v3 (v5 + (1 : Int32)) m10
      else
        jld 1 m10 91 v5 fun x11 =>
        jbd (f_C_bit x11 m10) fun x12 m13 =>
        lp_O_goesAgainst_62 v1 v4 k104 n (v3 ||| x12) (v5 + (1 : Int32)) m13
def lp_O_goesAgainst_8 (v1 : Int32) (k110 : Int32 → jMem → Option (Int32 × jMem)) : Nat → Int32 → Int32 → jMem → Option (Int32 × jMem)
  | 0, _, _, _ => none
  | n + 1, v3, v4, m =>
    if (30 : Int32) ≤ v4 then
      k110 v3 m
    else
      lp_O_goesAgainst_18 v1 v4 (fun w7 m6 =>
        lp_O_goesAgainst_62 v1 v4 (fun w15 m14 =>
          lp_O_goesAgainst_8 v1 k110 n w15 (v4 + (1 : Int32)) m14) 5000 w7 (0 : Int32) m6) 5000 v3 (0 : Int32) m
def f_O_goesAgainst (v1 : Int32) (v2 : Int32) (m : jMem) : Option (Int32 × jMem) :=
  jbd (f_C_bit v2 m) fun x1 m2 =>
  lp_O_goesAgainst_8 v1 (fun w17 m16 =>
    jbd (f_C_isIn w17 v1 m16) fun x18 m19 =>
    jgd (x18 = 0 ∨ x18 = 1) (some (x18, m19))) 5000 x1 (0 : Int32) m2
theorem jlp_O_goesAgainst_18 {G : jG} (hG : jFul G) (v1 : Int32) (v4 : Int32) (k59 : Int32 → jMem → Option (Int32 × jMem))
    (hk59 : ∀ (v3 : Int32) (m : jMem) (r : (Int32 × jMem)), k59 v3 m = some r → J G Y_O_goesAgainst 59 [(0, jr G 89), (1, .int v1), (3, .int v3), (4, .int v4)] [] m (jri r)) : ∀ (n : Nat) (v3 : Int32) (v5 : Int32) (m : jMem) (r : (Int32 × jMem)), lp_O_goesAgainst_18 v1 v4 k59 n v3 v5 m = some r → J G Y_O_goesAgainst 18 [(0, jr G 89), (1, .int v1), (3, .int v3), (4, .int v4), (5, .int v5)] [] m (jri r) := by
  intro n
  induction n with
  | zero => intro v3 v5 m r h; unfold lp_O_goesAgainst_18 at h; cases h
  | succ n ih =>
    intro v3 v5 m r h
    unfold lp_O_goesAgainst_18 at h
    refine J.iload 4 d_O_goesAgainst_18 rfl ?_
    refine J.aload_n 0 d_O_goesAgainst_20 rfl rfl ?_
    refine J.getF (n := 29) hG d_O_goesAgainst_21 fl_O_35 ck_89_0 rfl ?_
    refine J.getI hG d_O_goesAgainst_24 fl_O_47 ck_29_15 ?_
    refine J.icmp_ge 59 d_O_goesAgainst_27 rfl (fun c => ?_) (fun c => ?_)
    · rw [if_pos c] at h
      exact J.sub (ls' := [(0, jr G 89), (1, .int v1), (3, .int v3), (4, .int v4)]) [0, 1, 2, 3] rfl (hk59 v3 m _ h)
    · rw [if_neg c] at h
      refine J.aload_n 0 d_O_goesAgainst_30 rfl rfl ?_
      refine J.getF (n := 29) hG d_O_goesAgainst_31 fl_O_35 ck_89_0 rfl ?_
      refine J.getF (n := 37) hG d_O_goesAgainst_34 fl_O_52 ck_29_7 rfl ?_
      refine J.nop (pc' := 37) rfl ?_
      refine J.iload 4 d_O_goesAgainst_37 rfl ?_
      obtain ⟨x3, ex3, g, h⟩ := jld_some h
      refine J.il hG d_O_goesAgainst_39 g ex3 ?_
      refine J.iload_n 2 d_O_goesAgainst_40 rfl rfl ?_
      refine J.iand d_O_goesAgainst_41 ?_
      refine J.if_eq 53 d_O_goesAgainst_42 rfl (fun c => ?_) (fun c => ?_)
      · rw [if_pos c] at h
        refine J.iinc 4 (v := (1 : Int32)) (lv := [(5, .int (v5 + (1 : Int32))), (0, jr G 89), (1, .int v1), (3, .int v3), (4, .int v4)]) d_O_goesAgainst_53 rfl ki_1 (by decide) rfl ?_
        refine J.goto 18 d_O_goesAgainst_56 rfl ?_
        exact J.sub (ls' := [(0, jr G 89), (1, .int v1), (3, .int v3), (4, .int v4), (5, .int (v5 + (1 : Int32)))]) [1, 2, 3, 4, 0] rfl (ih v3 (v5 + (1 : Int32)) m _ h)
      · rw [if_neg c] at h
        refine J.iload_n 2 d_O_goesAgainst_45 rfl rfl ?_
        refine J.iload 4 d_O_goesAgainst_46 rfl ?_
        obtain ⟨x4, m5, zm5, h⟩ := jbd_some h
        refine J.cSi Y_C_bit (As := [.int v5]) (rest := [.int v3]) d_O_goesAgainst_48 mi_C_bit ms_C_bit lk_O_43 ⟨rfl, rfl, Nat.le_of_ble_eq_true rfl⟩ (c_C_bit hG zm5) rfl (Nat.le_trans (jcI jcN) (Nat.le_of_ble_eq_true rfl)) ?_
        refine J.nop (pc' := 51) rfl ?_
        refine J.ior d_O_goesAgainst_51 ?_
        refine J.istore_n (lv := [(3, .int (v3 ||| x4)), (0, jr G 89), (1, .int v1), (4, .int v4), (5, .int v5)]) d_O_goesAgainst_52 rfl (by decide) rfl ?_
        refine J.iinc 4 (v := (1 : Int32)) (lv := [(5, .int (v5 + (1 : Int32))), (3, .int (v3 ||| x4)), (0, jr G 89), (1, .int v1), (4, .int v4)]) d_O_goesAgainst_53 rfl ki_1 (by decide) rfl ?_
        refine J.goto 18 d_O_goesAgainst_56 rfl ?_
        exact J.sub (ls' := [(0, jr G 89), (1, .int v1), (3, .int (v3 ||| x4)), (4, .int v4), (5, .int (v5 + (1 : Int32)))]) [2, 3, 1, 4, 0] rfl (ih (v3 ||| x4) (v5 + (1 : Int32)) m5 _ h)
theorem jlp_O_goesAgainst_62 {G : jG} (hG : jFul G) (v1 : Int32) (v4 : Int32) (k104 : Int32 → jMem → Option (Int32 × jMem))
    (hk104 : ∀ (v3 : Int32) (m : jMem) (r : (Int32 × jMem)), k104 v3 m = some r → J G Y_O_goesAgainst 104 [(0, jr G 89), (1, .int v1), (3, .int v3), (4, .int v4)] [] m (jri r)) : ∀ (n : Nat) (v3 : Int32) (v5 : Int32) (m : jMem) (r : (Int32 × jMem)), lp_O_goesAgainst_62 v1 v4 k104 n v3 v5 m = some r → J G Y_O_goesAgainst 62 [(0, jr G 89), (1, .int v1), (3, .int v3), (4, .int v4), (5, .int v5)] [] m (jri r) := by
  intro n
  induction n with
  | zero => intro v3 v5 m r h; unfold lp_O_goesAgainst_62 at h; cases h
  | succ n ih =>
    intro v3 v5 m r h
    unfold lp_O_goesAgainst_62 at h
    refine J.iload 4 d_O_goesAgainst_62 rfl ?_
    refine J.aload_n 0 d_O_goesAgainst_64 rfl rfl ?_
    refine J.getI hG d_O_goesAgainst_65 fl_O_39 ck_89_3 ?_
    refine J.icmp_ge 104 d_O_goesAgainst_68 rfl (fun c => ?_) (fun c => ?_)
    · rw [if_pos c] at h
      exact J.sub (ls' := [(0, jr G 89), (1, .int v1), (3, .int v3), (4, .int v4)]) [0, 1, 2, 3] rfl (hk104 v3 m _ h)
    · rw [if_neg c] at h
      refine J.iload_n 2 d_O_goesAgainst_71 rfl rfl ?_
      refine J.aload_n 0 d_O_goesAgainst_72 rfl rfl ?_
      refine J.getF (n := 90) hG d_O_goesAgainst_73 fl_O_9 ck_89_1 rfl ?_
      refine J.iload 4 d_O_goesAgainst_76 rfl ?_
      refine J.nop (pc' := 78) rfl ?_
      obtain ⟨x8, ex8, g, h⟩ := jld_some h
      refine J.il hG d_O_goesAgainst_78 g ex8 ?_
      obtain ⟨x9, m10, zm10, h⟩ := jbd_some h
      refine J.cSi Y_C_isIn (As := [.int v3, .int x8]) (rest := []) d_O_goesAgainst_79 mi_C_isIn ms_C_isIn lk_O_55 ⟨rfl, rfl, Nat.le_of_ble_eq_true rfl⟩ (c_C_isIn hG zm10) rfl (Nat.le_trans jcN (Nat.le_of_ble_eq_true rfl)) ?_
      refine J.if_eq 98 d_O_goesAgainst_82 rfl (fun c => ?_) (fun c => ?_)
      · rw [if_pos c] at h
        refine J.iinc 4 (v := (1 : Int32)) (lv := [(5, .int (v5 + (1 : Int32))), (0, jr G 89), (1, .int v1), (3, .int v3), (4, .int v4)]) d_O_goesAgainst_98 rfl ki_1 (by decide) rfl ?_
        refine J.goto 62 d_O_goesAgainst_101 rfl ?_
        exact J.sub (ls' := [(0, jr G 89), (1, .int v1), (3, .int v3), (4, .int v4), (5, .int (v5 + (1 : Int32)))]) [1, 2, 3, 4, 0] rfl (ih v3 (v5 + (1 : Int32)) m10 _ h)
      · rw [if_neg c] at h
        refine J.iload_n 2 d_O_goesAgainst_85 rfl rfl ?_
        refine J.aload_n 0 d_O_goesAgainst_86 rfl rfl ?_
        refine J.getF (n := 91) hG d_O_goesAgainst_87 fl_O_15 ck_89_2 rfl ?_
        refine J.iload 4 d_O_goesAgainst_90 rfl ?_
        obtain ⟨x11, ex11, g, h⟩ := jld_some h
        refine J.il hG d_O_goesAgainst_92 g ex11 ?_
        refine J.nop (pc' := 93) rfl ?_
        obtain ⟨x12, m13, zm13, h⟩ := jbd_some h
        refine J.cSi Y_C_bit (As := [.int x11]) (rest := [.int v3]) d_O_goesAgainst_93 mi_C_bit ms_C_bit lk_O_43 ⟨rfl, rfl, Nat.le_of_ble_eq_true rfl⟩ (c_C_bit hG zm13) rfl (Nat.le_trans (jcI jcN) (Nat.le_of_ble_eq_true rfl)) ?_
        refine J.ior d_O_goesAgainst_96 ?_
        refine J.istore_n (lv := [(3, .int (v3 ||| x12)), (0, jr G 89), (1, .int v1), (4, .int v4), (5, .int v5)]) d_O_goesAgainst_97 rfl (by decide) rfl ?_
        refine J.iinc 4 (v := (1 : Int32)) (lv := [(5, .int (v5 + (1 : Int32))), (3, .int (v3 ||| x12)), (0, jr G 89), (1, .int v1), (4, .int v4)]) d_O_goesAgainst_98 rfl ki_1 (by decide) rfl ?_
        refine J.goto 62 d_O_goesAgainst_101 rfl ?_
        exact J.sub (ls' := [(0, jr G 89), (1, .int v1), (3, .int (v3 ||| x12)), (4, .int v4), (5, .int (v5 + (1 : Int32)))]) [2, 3, 1, 4, 0] rfl (ih (v3 ||| x12) (v5 + (1 : Int32)) m13 _ h)
theorem jlp_O_goesAgainst_8 {G : jG} (hG : jFul G) (v1 : Int32) (k110 : Int32 → jMem → Option (Int32 × jMem))
    (hk110 : ∀ (v3 : Int32) (m : jMem) (r : (Int32 × jMem)), k110 v3 m = some r → J G Y_O_goesAgainst 110 [(1, .int v1), (3, .int v3)] [] m (jri r)) : ∀ (n : Nat) (v3 : Int32) (v4 : Int32) (m : jMem) (r : (Int32 × jMem)), lp_O_goesAgainst_8 v1 k110 n v3 v4 m = some r → J G Y_O_goesAgainst 8 [(0, jr G 89), (1, .int v1), (3, .int v3), (4, .int v4)] [] m (jri r) := by
  intro n
  induction n with
  | zero => intro v3 v4 m r h; unfold lp_O_goesAgainst_8 at h; cases h
  | succ n ih =>
    intro v3 v4 m r h
    unfold lp_O_goesAgainst_8 at h
    refine J.iload 3 d_O_goesAgainst_8 rfl ?_
    refine J.bipush (v := (30 : Int32)) d_O_goesAgainst_10 kb_30 ?_
    refine J.icmp_ge 110 d_O_goesAgainst_12 rfl (fun c => ?_) (fun c => ?_)
    · rw [if_pos c] at h
      exact J.sub (ls' := [(1, .int v1), (3, .int v3)]) [1, 2] rfl (hk110 v3 m _ h)
    · rw [if_neg c] at h
      refine J.iconst (v := (0 : Int32)) d_O_goesAgainst_15 ki_0 ?_
      refine J.istore (lv := [(5, .int (0 : Int32)), (0, jr G 89), (1, .int v1), (3, .int v3), (4, .int v4)]) d_O_goesAgainst_16 (by decide) rfl ?_
      refine J.sub (ls' := [(0, jr G 89), (1, .int v1), (3, .int v3), (4, .int v4), (5, .int (0 : Int32))]) [1, 2, 3, 4, 0] rfl ?_
      refine jlp_O_goesAgainst_18 hG v1 v4 _ ?_ _ v3 (0 : Int32) m _ h
      intro w7 m6 r h
      refine J.iconst (v := (0 : Int32)) d_O_goesAgainst_59 ki_0 ?_
      refine J.istore (lv := [(5, .int (0 : Int32)), (0, jr G 89), (1, .int v1), (3, .int w7), (4, .int v4)]) d_O_goesAgainst_60 (by decide) rfl ?_
      refine J.sub (ls' := [(0, jr G 89), (1, .int v1), (3, .int w7), (4, .int v4), (5, .int (0 : Int32))]) [1, 2, 3, 4, 0] rfl ?_
      refine jlp_O_goesAgainst_62 hG v1 v4 _ ?_ _ w7 (0 : Int32) m6 _ h
      intro w15 m14 r h
      refine J.iinc 3 (v := (1 : Int32)) (lv := [(4, .int (v4 + (1 : Int32))), (0, jr G 89), (1, .int v1), (3, .int w15)]) d_O_goesAgainst_104 rfl ki_1 (by decide) rfl ?_
      refine J.goto 8 d_O_goesAgainst_107 rfl ?_
      exact J.sub (ls' := [(0, jr G 89), (1, .int v1), (3, .int w15), (4, .int (v4 + (1 : Int32)))]) [1, 2, 3, 0] rfl (ih w15 (v4 + (1 : Int32)) m14 _ h)
theorem c_O_goesAgainst {G : jG} (hG : jFul G) {v1 : Int32} {v2 : Int32} {m : jMem} {r : (Int32 × jMem)} (h : f_O_goesAgainst v1 v2 m = some r) : jCt G Y_O_goesAgainst [jr G 89, .int v1, .int v2] m (jri r) := by
  refine jCt.ov (ls := [(0, jr G 89), (1, .int v1), (2, .int v2)]) mi_O_goesAgainst (jAvR (jAvI (jAvI jAvN))) (Nat.le_of_ble_eq_true rfl) ?_ ⟨rfl, rfl⟩
  unfold f_O_goesAgainst at h
  refine J.iload_n 2 d_O_goesAgainst_0 rfl rfl ?_
  obtain ⟨x1, m2, zm2, h⟩ := jbd_some h
  refine J.cSi Y_C_bit (As := [.int v2]) (rest := []) d_O_goesAgainst_1 mi_C_bit ms_C_bit lk_O_43 ⟨rfl, rfl, Nat.le_of_ble_eq_true rfl⟩ (c_C_bit hG zm2) rfl (Nat.le_trans jcN (Nat.le_of_ble_eq_true rfl)) ?_
  refine J.istore_n (lv := [(3, .int x1), (0, jr G 89), (1, .int v1), (2, .int v2)]) d_O_goesAgainst_4 rfl (by decide) rfl ?_
  refine J.iconst (v := (0 : Int32)) d_O_goesAgainst_5 ki_0 ?_
  refine J.istore (lv := [(4, .int (0 : Int32)), (3, .int x1), (0, jr G 89), (1, .int v1), (2, .int v2)]) d_O_goesAgainst_6 (by decide) rfl ?_
  refine J.sub (ls' := [(0, jr G 89), (1, .int v1), (3, .int x1), (4, .int (0 : Int32))]) [2, 3, 1, 0] rfl ?_
  refine jlp_O_goesAgainst_8 hG v1 _ ?_ _ x1 (0 : Int32) m2 _ h
  intro w17 m16 r h
  refine J.iload_n 1 d_O_goesAgainst_110 rfl rfl ?_
  refine J.iload_n 0 d_O_goesAgainst_111 rfl rfl ?_
  obtain ⟨x18, m19, zm19, h⟩ := jbd_some h
  refine J.cSi Y_C_isIn (As := [.int w17, .int v1]) (rest := []) d_O_goesAgainst_112 mi_C_isIn ms_C_isIn lk_O_55 ⟨rfl, rfl, Nat.le_of_ble_eq_true rfl⟩ (c_C_isIn hG zm19) rfl (Nat.le_trans jcN (Nat.le_of_ble_eq_true rfl)) ?_
  obtain ⟨g, h⟩ := jgd_some h
  cases h
  exact J.iret d_O_goesAgainst_115 rfl (jnar_z g) rfl

def f_O_tell (v1 : Int32) (v2 : Int32) (m : jMem) : Option (Unit × jMem) :=
  if (12 : Int32) ≤ (m 89 3) then
    some ((), m)
  else
    jst 1 m 90 (m 89 3) v1 fun m1 =>
    jst 1 m1 91 (m1 89 3) v2 fun m2 =>
    jpu m2 89 3 ((m2 89 3) + (1 : Int32)) fun m3 =>
    some ((), m3)
theorem c_O_tell {G : jG} (hG : jFul G) {v1 : Int32} {v2 : Int32} {m : jMem} {r : (Unit × jMem)} (h : f_O_tell v1 v2 m = some r) : jCt G Y_O_tell [jr G 89, .int v1, .int v2] m (jrv r) := by
  refine jCt.ov (ls := [(0, jr G 89), (1, .int v1), (2, .int v2)]) mi_O_tell (jAvR (jAvI (jAvI jAvN))) (Nat.le_of_ble_eq_true rfl) ?_ ⟨rfl, rfl⟩
  unfold f_O_tell at h
  refine J.aload_n 0 d_O_tell_0 rfl rfl ?_
  refine J.getI hG d_O_tell_1 fl_O_39 ck_89_3 ?_
  refine J.bipush (v := (12 : Int32)) d_O_tell_4 kb_12 ?_
  refine J.icmp_ge 39 d_O_tell_6 rfl (fun c => ?_) (fun c => ?_)
  · rw [if_pos c] at h
    cases h
    exact J.vret d_O_tell_39 rfl rfl
  · rw [if_neg c] at h
    refine J.aload_n 0 d_O_tell_9 rfl rfl ?_
    refine J.getF (n := 90) hG d_O_tell_10 fl_O_9 ck_89_1 rfl ?_
    refine J.aload_n 0 d_O_tell_13 rfl rfl ?_
    refine J.getI hG d_O_tell_14 fl_O_39 ck_89_3 ?_
    refine J.nop (pc' := 17) rfl ?_
    refine J.iload_n 1 d_O_tell_17 rfl rfl ?_
    obtain ⟨m1, hm1, g, h⟩ := jst_some h
    refine J.is hG d_O_tell_18 g hm1 ?_
    refine J.aload_n 0 d_O_tell_19 rfl rfl ?_
    refine J.getF (n := 91) hG d_O_tell_20 fl_O_15 ck_89_2 rfl ?_
    refine J.aload_n 0 d_O_tell_23 rfl rfl ?_
    refine J.getI hG d_O_tell_24 fl_O_39 ck_89_3 ?_
    refine J.iload_n 2 d_O_tell_27 rfl rfl ?_
    obtain ⟨m2, hm2, g, h⟩ := jst_some h
    refine J.is hG d_O_tell_28 g hm2 ?_
    refine J.nop (pc' := 29) rfl ?_
    refine J.aload_n 0 d_O_tell_29 rfl rfl ?_
    refine J.dup d_O_tell_30 (jr_cat _ _) ?_
    refine J.getI hG d_O_tell_31 fl_O_39 ck_89_3 ?_
    refine J.iconst (v := (1 : Int32)) d_O_tell_34 ki_1 ?_
    refine J.iadd d_O_tell_35 ?_
    obtain ⟨m3, hm3, h⟩ := jpu_some h
    refine J.putI hG d_O_tell_36 fl_O_39 fp_9_3 ck_89_3 hm3 ?_
    cases h
    exact J.vret d_O_tell_39 rfl rfl

def f_O_mayFollow (v1 : Int32) (v2 : Int32) (m : jMem) : Option (Int32 × jMem) :=
  jbd (f_C_isIn v2 v1 m) fun x1 m2 =>
  if x1 = 0 then
    jld 1 m2 93 v1 fun x3 =>
    if (x3 &&& (v2 ^^^ (-1 : Int32))) = 0 then
      some ((1 : Int32), m2)
    else
      some ((0 : Int32), m2)
  else
    some ((0 : Int32), m2)
theorem c_O_mayFollow {G : jG} (hG : jFul G) {v1 : Int32} {v2 : Int32} {m : jMem} {r : (Int32 × jMem)} (h : f_O_mayFollow v1 v2 m = some r) : jCt G Y_O_mayFollow [jr G 89, .int v1, .int v2] m (jri r) := by
  refine jCt.ov (ls := [(0, jr G 89), (1, .int v1), (2, .int v2)]) mi_O_mayFollow (jAvR (jAvI (jAvI jAvN))) (Nat.le_of_ble_eq_true rfl) ?_ ⟨rfl, rfl⟩
  unfold f_O_mayFollow at h
  refine J.iload_n 2 d_O_mayFollow_0 rfl rfl ?_
  refine J.iload_n 1 d_O_mayFollow_1 rfl rfl ?_
  obtain ⟨x1, m2, zm2, h⟩ := jbd_some h
  refine J.cSi Y_C_isIn (As := [.int v2, .int v1]) (rest := []) d_O_mayFollow_2 mi_C_isIn ms_C_isIn lk_O_55 ⟨rfl, rfl, Nat.le_of_ble_eq_true rfl⟩ (c_C_isIn hG zm2) rfl (Nat.le_trans jcN (Nat.le_of_ble_eq_true rfl)) ?_
  refine J.if_ne 25 d_O_mayFollow_5 rfl (fun c => ?_) (fun c => ?_)
  · rw [if_neg c] at h
    refine J.iconst (v := (0 : Int32)) d_O_mayFollow_25 ki_0 ?_
    cases h
    exact J.iret d_O_mayFollow_26 rfl rfl rfl
  · rw [if_pos c] at h
    refine J.aload_n 0 d_O_mayFollow_8 rfl rfl ?_
    refine J.getF (n := 93) hG d_O_mayFollow_9 fl_O_21 ck_89_5 rfl ?_
    refine J.iload_n 1 d_O_mayFollow_12 rfl rfl ?_
    obtain ⟨x3, ex3, g, h⟩ := jld_some h
    refine J.il hG d_O_mayFollow_13 g ex3 ?_
    refine J.nop (pc' := 14) rfl ?_
    refine J.iload_n 2 d_O_mayFollow_14 rfl rfl ?_
    refine J.iconst (v := (-1 : Int32)) d_O_mayFollow_15 ki_m1 ?_
    refine J.ixor d_O_mayFollow_16 ?_
    refine J.iand d_O_mayFollow_17 ?_
    refine J.if_ne 25 d_O_mayFollow_18 rfl (fun c => ?_) (fun c => ?_)
    · rw [if_neg c] at h
      refine J.iconst (v := (0 : Int32)) d_O_mayFollow_25 ki_0 ?_
      cases h
      exact J.iret d_O_mayFollow_26 rfl rfl rfl
    · rw [if_pos c] at h
      refine J.iconst (v := (1 : Int32)) d_O_mayFollow_21 ki_1 ?_
      refine J.goto 26 d_O_mayFollow_22 rfl ?_
      cases h
      exact J.iret d_O_mayFollow_26 rfl rfl rfl

def lp_O_howMany_30 (v2 : Int32) (k70 : Int32 → jMem → Option (Int32 × jMem)) : Nat → Int32 → Int32 → jMem → Option (Int32 × jMem)
  | 0, _, _, _ => none
  | n + 1, v3, v4, m =>
    if (m 89 6) ≤ v4 then
      k70 v3 m
    else
      jbd (f_O_mayFollow v4 v2 m) fun x4 m5 =>
      if x4 = 0 then
        lp_O_howMany_30 v2 k70 n v3 (v4 + (1 : Int32)) m5
      else
        jbd (f_C_bit v4 m5) fun x6 m7 =>
        jld 1 m7 94 (v2 ||| x6) fun x8 =>
        lp_O_howMany_30 v2 k70 n (v3 + x8) (v4 + (1 : Int32)) m7
def lp_O_howMany_21 (k83 : jMem → Option (Int32 × jMem)) : Nat → Int32 → jMem → Option (Int32 × jMem)
  | 0, _, _ => none
  | n + 1, v2, m =>
    if v2 < 0 then
      k83 m
    else
      lp_O_howMany_30 v2 (fun w10 m9 =>
        jst 1 m9 94 v2 w10 fun m11 =>
        lp_O_howMany_21 k83 n (v2 + (-1 : Int32)) m11) 5000 (0 : Int32) (0 : Int32) m
def f_O_howMany (m : jMem) : Option (Int32 × jMem) :=
  jbd (f_C_bit (m 89 6) m) fun x1 m2 =>
  jst 1 m2 94 (x1 - (1 : Int32)) (1 : Int32) fun m3 =>
  lp_O_howMany_21 (fun m12 =>
    jld 1 m12 94 (0 : Int32) fun x13 =>
    some (x13, m12)) 5000 ((x1 - (1 : Int32)) - (1 : Int32)) m3
theorem jlp_O_howMany_30 {G : jG} (hG : jFul G) (v2 : Int32) (k70 : Int32 → jMem → Option (Int32 × jMem))
    (hk70 : ∀ (v3 : Int32) (m : jMem) (r : (Int32 × jMem)), k70 v3 m = some r → J G Y_O_howMany 70 [(0, jr G 89), (2, .int v2), (3, .int v3)] [] m (jri r)) : ∀ (n : Nat) (v3 : Int32) (v4 : Int32) (m : jMem) (r : (Int32 × jMem)), lp_O_howMany_30 v2 k70 n v3 v4 m = some r → J G Y_O_howMany 30 [(0, jr G 89), (2, .int v2), (3, .int v3), (4, .int v4)] [] m (jri r) := by
  intro n
  induction n with
  | zero => intro v3 v4 m r h; unfold lp_O_howMany_30 at h; cases h
  | succ n ih =>
    intro v3 v4 m r h
    unfold lp_O_howMany_30 at h
    refine J.iload 3 d_O_howMany_30 rfl ?_
    refine J.aload_n 0 d_O_howMany_32 rfl rfl ?_
    refine J.getI hG d_O_howMany_33 fl_O_68 ck_89_6 ?_
    refine J.icmp_ge 70 d_O_howMany_36 rfl (fun c => ?_) (fun c => ?_)
    · rw [if_pos c] at h
      exact J.sub (ls' := [(0, jr G 89), (2, .int v2), (3, .int v3)]) [0, 1, 2] rfl (hk70 v3 m _ h)
    · rw [if_neg c] at h
      refine J.aload_n 0 d_O_howMany_39 rfl rfl ?_
      refine J.iload 3 d_O_howMany_40 rfl ?_
      refine J.iload_n 1 d_O_howMany_42 rfl rfl ?_
      obtain ⟨x4, m5, zm5, h⟩ := jbd_some h
      refine J.cVi Y_O_mayFollow (As := [.int v4, .int v2]) (rest := []) hG d_O_howMany_43 mi_O_mayFollow mv_O_mayFollow lk_O_76 ⟨rfl, rfl, Nat.le_of_ble_eq_true rfl⟩ cq_89 cc_9 (c_O_mayFollow hG zm5) rfl (Nat.le_trans jcN (Nat.le_of_ble_eq_true rfl)) ?_
      refine J.nop (pc' := 46) rfl ?_
      refine J.if_eq 64 d_O_howMany_46 rfl (fun c => ?_) (fun c => ?_)
      · rw [if_pos c] at h
        refine J.iinc 3 (v := (1 : Int32)) (lv := [(4, .int (v4 + (1 : Int32))), (0, jr G 89), (2, .int v2), (3, .int v3)]) d_O_howMany_64 rfl ki_1 (by decide) rfl ?_
        refine J.goto 30 d_O_howMany_67 rfl ?_
        exact J.sub (ls' := [(0, jr G 89), (2, .int v2), (3, .int v3), (4, .int (v4 + (1 : Int32)))]) [1, 2, 3, 0] rfl (ih v3 (v4 + (1 : Int32)) m5 _ h)
      · rw [if_neg c] at h
        refine J.iload_n 2 d_O_howMany_49 rfl rfl ?_
        refine J.aload_n 0 d_O_howMany_50 rfl rfl ?_
        refine J.getF (n := 94) hG d_O_howMany_51 fl_O_24 ck_89_7 rfl ?_
        refine J.iload_n 1 d_O_howMany_54 rfl rfl ?_
        refine J.iload 3 d_O_howMany_55 rfl ?_
        obtain ⟨x6, m7, zm7, h⟩ := jbd_some h
        refine J.cSi Y_C_bit (As := [.int v4]) (rest := [.int v2, jr G 94, .int v3]) d_O_howMany_57 mi_C_bit ms_C_bit lk_O_43 ⟨rfl, rfl, Nat.le_of_ble_eq_true rfl⟩ (c_C_bit hG zm7) rfl (Nat.le_trans (jcI (jcR (jcI jcN))) (Nat.le_of_ble_eq_true rfl)) ?_
        refine J.ior d_O_howMany_60 ?_
        refine J.nop (pc' := 61) rfl ?_
        obtain ⟨x8, ex8, g, h⟩ := jld_some h
        refine J.il hG d_O_howMany_61 g ex8 ?_
        refine J.iadd d_O_howMany_62 ?_
        refine J.istore_n (lv := [(3, .int (v3 + x8)), (0, jr G 89), (2, .int v2), (4, .int v4)]) d_O_howMany_63 rfl (by decide) rfl ?_
        refine J.iinc 3 (v := (1 : Int32)) (lv := [(4, .int (v4 + (1 : Int32))), (3, .int (v3 + x8)), (0, jr G 89), (2, .int v2)]) d_O_howMany_64 rfl ki_1 (by decide) rfl ?_
        refine J.goto 30 d_O_howMany_67 rfl ?_
        exact J.sub (ls' := [(0, jr G 89), (2, .int v2), (3, .int (v3 + x8)), (4, .int (v4 + (1 : Int32)))]) [2, 3, 1, 0] rfl (ih (v3 + x8) (v4 + (1 : Int32)) m7 _ h)
theorem jlp_O_howMany_21 {G : jG} (hG : jFul G) (k83 : jMem → Option (Int32 × jMem))
    (hk83 : ∀ (m : jMem) (r : (Int32 × jMem)), k83 m = some r → J G Y_O_howMany 83 [(0, jr G 89)] [] m (jri r)) : ∀ (n : Nat) (v2 : Int32) (m : jMem) (r : (Int32 × jMem)), lp_O_howMany_21 k83 n v2 m = some r → J G Y_O_howMany 21 [(0, jr G 89), (2, .int v2)] [] m (jri r) := by
  intro n
  induction n with
  | zero => intro v2 m r h; unfold lp_O_howMany_21 at h; cases h
  | succ n ih =>
    intro v2 m r h
    unfold lp_O_howMany_21 at h
    refine J.iload_n 1 d_O_howMany_21 rfl rfl ?_
    refine J.if_lt 83 d_O_howMany_22 rfl (fun c => ?_) (fun c => ?_)
    · rw [if_pos c] at h
      exact J.sub (ls' := [(0, jr G 89)]) [0] rfl (hk83  m _ h)
    · rw [if_neg c] at h
      refine J.iconst (v := (0 : Int32)) d_O_howMany_25 ki_0 ?_
      refine J.istore_n (lv := [(3, .int (0 : Int32)), (0, jr G 89), (2, .int v2)]) d_O_howMany_26 rfl (by decide) rfl ?_
      refine J.iconst (v := (0 : Int32)) d_O_howMany_27 ki_0 ?_
      refine J.istore (lv := [(4, .int (0 : Int32)), (3, .int (0 : Int32)), (0, jr G 89), (2, .int v2)]) d_O_howMany_28 (by decide) rfl ?_
      refine J.sub (ls' := [(0, jr G 89), (2, .int v2), (3, .int (0 : Int32)), (4, .int (0 : Int32))]) [2, 3, 1, 0] rfl ?_
      refine jlp_O_howMany_30 hG v2 _ ?_ _ (0 : Int32) (0 : Int32) m _ h
      intro w10 m9 r h
      refine J.aload_n 0 d_O_howMany_70 rfl rfl ?_
      refine J.getF (n := 94) hG d_O_howMany_71 fl_O_24 ck_89_7 rfl ?_
      refine J.iload_n 1 d_O_howMany_74 rfl rfl ?_
      refine J.iload_n 2 d_O_howMany_75 rfl rfl ?_
      obtain ⟨m11, hm11, g, h⟩ := jst_some h
      refine J.is hG d_O_howMany_76 g hm11 ?_
      refine J.iinc 1 (v := (-1 : Int32)) (lv := [(2, .int (v2 + (-1 : Int32))), (0, jr G 89), (3, .int w10)]) d_O_howMany_77 rfl ki_m1 (by decide) rfl ?_
      refine J.goto 21 d_O_howMany_80 rfl ?_
      exact J.sub (ls' := [(0, jr G 89), (2, .int (v2 + (-1 : Int32)))]) [1, 0] rfl (ih (v2 + (-1 : Int32)) m11 _ h)
theorem c_O_howMany {G : jG} (hG : jFul G) {m : jMem} {r : (Int32 × jMem)} (h : f_O_howMany m = some r) : jCt G Y_O_howMany [jr G 89] m (jri r) := by
  refine jCt.ov (ls := [(0, jr G 89)]) mi_O_howMany (jAvR jAvN) (Nat.le_of_ble_eq_true rfl) ?_ ⟨rfl, rfl⟩
  unfold f_O_howMany at h
  refine J.aload_n 0 d_O_howMany_0 rfl rfl ?_
  refine J.getI hG d_O_howMany_1 fl_O_68 ck_89_6 ?_
  obtain ⟨x1, m2, zm2, h⟩ := jbd_some h
  refine J.cSi Y_C_bit (As := [.int (m 89 6)]) (rest := []) d_O_howMany_4 mi_C_bit ms_C_bit lk_O_43 ⟨rfl, rfl, Nat.le_of_ble_eq_true rfl⟩ (c_C_bit hG zm2) rfl (Nat.le_trans jcN (Nat.le_of_ble_eq_true rfl)) ?_
  refine J.iconst (v := (1 : Int32)) d_O_howMany_7 ki_1 ?_
  refine J.isub d_O_howMany_8 ?_
  refine J.istore_n (lv := [(1, .int (x1 - (1 : Int32))), (0, jr G 89)]) d_O_howMany_9 rfl (by decide) rfl ?_
  refine J.aload_n 1 d_O_howMany_10 rfl rfl ?_
  refine J.getF (n := 94) hG d_O_howMany_11 fl_O_24 ck_89_7 rfl ?_
  refine J.nop (pc' := 14) rfl ?_
  refine J.iload_n 0 d_O_howMany_14 rfl rfl ?_
  refine J.iconst (v := (1 : Int32)) d_O_howMany_15 ki_1 ?_
  obtain ⟨m3, hm3, g, h⟩ := jst_some h
  refine J.is hG d_O_howMany_16 g hm3 ?_
  refine J.iload_n 0 d_O_howMany_17 rfl rfl ?_
  refine J.iconst (v := (1 : Int32)) d_O_howMany_18 ki_1 ?_
  refine J.isub d_O_howMany_19 ?_
  refine J.istore_n (lv := [(2, .int ((x1 - (1 : Int32)) - (1 : Int32))), (1, .int (x1 - (1 : Int32))), (0, jr G 89)]) d_O_howMany_20 rfl (by decide) rfl ?_
  refine J.sub (ls' := [(0, jr G 89), (2, .int ((x1 - (1 : Int32)) - (1 : Int32)))]) [2, 0] rfl ?_
  refine jlp_O_howMany_21 hG _ ?_ _ ((x1 - (1 : Int32)) - (1 : Int32)) m3 _ h
  intro m12 r h
  refine J.aload_n 0 d_O_howMany_83 rfl rfl ?_
  refine J.getF (n := 94) hG d_O_howMany_84 fl_O_24 ck_89_7 rfl ?_
  refine J.iconst (v := (0 : Int32)) d_O_howMany_87 ki_0 ?_
  obtain ⟨x13, ex13, g, h⟩ := jld_some h
  refine J.il hG d_O_howMany_88 g ex13 ?_
  cases h
  exact J.iret d_O_howMany_89 rfl (vp_nar_int _) rfl

def lp_O_placesOf_4 (v1 : Int32) (k38 : Int32 → jMem → Option (Int32 × jMem)) : Nat → Int32 → Int32 → jMem → Option (Int32 × jMem)
  | 0, _, _, _ => none
  | n + 1, v2, v3, m =>
    if (m 89 6) ≤ v3 then
      k38 v2 m
    else
      jld 1 m 92 v3 fun x1 =>
      jbd (f_C_isIn v1 x1 m) fun x2 m3 =>
      if x2 = 0 then
        lp_O_placesOf_4 v1 k38 n v2 (v3 + (1 : Int32)) m3
      else
        jbd (f_C_bit v3 m3) fun x4 m5 =>
        lp_O_placesOf_4 v1 k38 n (v2 ||| x4) (v3 + (1 : Int32)) m5
def f_O_placesOf (v1 : Int32) (m : jMem) : Option (Int32 × jMem) :=
  lp_O_placesOf_4 v1 (fun w7 m6 =>
    some (w7, m6)) 5000 (0 : Int32) (0 : Int32) m
theorem jlp_O_placesOf_4 {G : jG} (hG : jFul G) (v1 : Int32) (k38 : Int32 → jMem → Option (Int32 × jMem))
    (hk38 : ∀ (v2 : Int32) (m : jMem) (r : (Int32 × jMem)), k38 v2 m = some r → J G Y_O_placesOf 38 [(2, .int v2)] [] m (jri r)) : ∀ (n : Nat) (v2 : Int32) (v3 : Int32) (m : jMem) (r : (Int32 × jMem)), lp_O_placesOf_4 v1 k38 n v2 v3 m = some r → J G Y_O_placesOf 4 [(0, jr G 89), (1, .int v1), (2, .int v2), (3, .int v3)] [] m (jri r) := by
  intro n
  induction n with
  | zero => intro v2 v3 m r h; unfold lp_O_placesOf_4 at h; cases h
  | succ n ih =>
    intro v2 v3 m r h
    unfold lp_O_placesOf_4 at h
    refine J.iload_n 3 d_O_placesOf_4 rfl rfl ?_
    refine J.aload_n 0 d_O_placesOf_5 rfl rfl ?_
    refine J.getI hG d_O_placesOf_6 fl_O_68 ck_89_6 ?_
    refine J.icmp_ge 38 d_O_placesOf_9 rfl (fun c => ?_) (fun c => ?_)
    · rw [if_pos c] at h
      exact J.sub (ls' := [(2, .int v2)]) [2] rfl (hk38 v2 m _ h)
    · rw [if_neg c] at h
      refine J.iload_n 1 d_O_placesOf_12 rfl rfl ?_
      refine J.aload_n 0 d_O_placesOf_13 rfl rfl ?_
      refine J.getF (n := 92) hG d_O_placesOf_14 fl_O_18 ck_89_4 rfl ?_
      refine J.iload_n 3 d_O_placesOf_17 rfl rfl ?_
      refine J.nop (pc' := 18) rfl ?_
      obtain ⟨x1, ex1, g, h⟩ := jld_some h
      refine J.il hG d_O_placesOf_18 g ex1 ?_
      obtain ⟨x2, m3, zm3, h⟩ := jbd_some h
      refine J.cSi Y_C_isIn (As := [.int v1, .int x1]) (rest := []) d_O_placesOf_19 mi_C_isIn ms_C_isIn lk_O_55 ⟨rfl, rfl, Nat.le_of_ble_eq_true rfl⟩ (c_C_isIn hG zm3) rfl (Nat.le_trans jcN (Nat.le_of_ble_eq_true rfl)) ?_
      refine J.if_eq 32 d_O_placesOf_22 rfl (fun c => ?_) (fun c => ?_)
      · rw [if_pos c] at h
        refine J.iinc 3 (v := (1 : Int32)) (lv := [(3, .int (v3 + (1 : Int32))), (0, jr G 89), (1, .int v1), (2, .int v2)]) d_O_placesOf_32 rfl ki_1 (by decide) rfl ?_
        refine J.goto 4 d_O_placesOf_35 rfl ?_
        exact J.sub (ls' := [(0, jr G 89), (1, .int v1), (2, .int v2), (3, .int (v3 + (1 : Int32)))]) [1, 2, 3, 0] rfl (ih v2 (v3 + (1 : Int32)) m3 _ h)
      · rw [if_neg c] at h
        refine J.iload_n 2 d_O_placesOf_25 rfl rfl ?_
        refine J.iload_n 3 d_O_placesOf_26 rfl rfl ?_
        obtain ⟨x4, m5, zm5, h⟩ := jbd_some h
        refine J.cSi Y_C_bit (As := [.int v3]) (rest := [.int v2]) d_O_placesOf_27 mi_C_bit ms_C_bit lk_O_43 ⟨rfl, rfl, Nat.le_of_ble_eq_true rfl⟩ (c_C_bit hG zm5) rfl (Nat.le_trans (jcI jcN) (Nat.le_of_ble_eq_true rfl)) ?_
        refine J.ior d_O_placesOf_30 ?_
        refine J.istore_n (lv := [(2, .int (v2 ||| x4)), (0, jr G 89), (1, .int v1), (3, .int v3)]) d_O_placesOf_31 rfl (by decide) rfl ?_
        refine J.nop (pc' := 32) rfl ?_
        refine J.iinc 3 (v := (1 : Int32)) (lv := [(3, .int (v3 + (1 : Int32))), (2, .int (v2 ||| x4)), (0, jr G 89), (1, .int v1)]) d_O_placesOf_32 rfl ki_1 (by decide) rfl ?_
        refine J.goto 4 d_O_placesOf_35 rfl ?_
        exact J.sub (ls' := [(0, jr G 89), (1, .int v1), (2, .int (v2 ||| x4)), (3, .int (v3 + (1 : Int32)))]) [2, 3, 1, 0] rfl (ih (v2 ||| x4) (v3 + (1 : Int32)) m5 _ h)
theorem c_O_placesOf {G : jG} (hG : jFul G) {v1 : Int32} {m : jMem} {r : (Int32 × jMem)} (h : f_O_placesOf v1 m = some r) : jCt G Y_O_placesOf [jr G 89, .int v1] m (jri r) := by
  refine jCt.ov (ls := [(0, jr G 89), (1, .int v1)]) mi_O_placesOf (jAvR (jAvI jAvN)) (Nat.le_of_ble_eq_true rfl) ?_ ⟨rfl, rfl⟩
  unfold f_O_placesOf at h
  refine J.iconst (v := (0 : Int32)) d_O_placesOf_0 ki_0 ?_
  refine J.istore_n (lv := [(2, .int (0 : Int32)), (0, jr G 89), (1, .int v1)]) d_O_placesOf_1 rfl (by decide) rfl ?_
  refine J.iconst (v := (0 : Int32)) d_O_placesOf_2 ki_0 ?_
  refine J.istore_n (lv := [(3, .int (0 : Int32)), (2, .int (0 : Int32)), (0, jr G 89), (1, .int v1)]) d_O_placesOf_3 rfl (by decide) rfl ?_
  refine J.sub (ls' := [(0, jr G 89), (1, .int v1), (2, .int (0 : Int32)), (3, .int (0 : Int32))]) [2, 3, 1, 0] rfl ?_
  refine jlp_O_placesOf_4 hG v1 _ ?_ _ (0 : Int32) (0 : Int32) m _ h
  intro w7 m6 r h
  refine J.iload_n 0 d_O_placesOf_38 rfl rfl ?_
  cases h
  exact J.iret d_O_placesOf_39 rfl (vp_nar_int _) rfl

def lp_O_demand_2 (v1 : Int32) (v2 : Int32) (k43 : jMem → Option (Unit × jMem)) : Nat → Int32 → jMem → Option (Unit × jMem)
  | 0, _, _ => none
  | n + 1, v3, m =>
    if (m 89 6) ≤ v3 then
      k43 m
    else
      jld 1 m 92 v3 fun x1 =>
      if x1 = v2 then
        jld 1 m 93 v3 fun x2 =>
        jbd (f_C_bit v1 m) fun x3 m4 =>
        jbd (f_O_placesOf x3 m4) fun x5 m6 =>
        jst 1 m6 93 v3 (x2 ||| x5) fun m7 =>
        lp_O_demand_2 v1 v2 k43 n (v3 + (1 : Int32)) m7
      else
        lp_O_demand_2 v1 v2 k43 n (v3 + (1 : Int32)) m
def f_O_demand (v1 : Int32) (v2 : Int32) (m : jMem) : Option (Unit × jMem) :=
  lp_O_demand_2 v1 v2 (fun m8 =>
    some ((), m8)) 5000 (0 : Int32) m
theorem jlp_O_demand_2 {G : jG} (hG : jFul G) (v1 : Int32) (v2 : Int32) (k43 : jMem → Option (Unit × jMem))
    (hk43 : ∀ (m : jMem) (r : (Unit × jMem)), k43 m = some r → J G Y_O_demand 43 [] [] m (jrv r)) : ∀ (n : Nat) (v3 : Int32) (m : jMem) (r : (Unit × jMem)), lp_O_demand_2 v1 v2 k43 n v3 m = some r → J G Y_O_demand 2 [(0, jr G 89), (1, .int v1), (2, .int v2), (3, .int v3)] [] m (jrv r) := by
  intro n
  induction n with
  | zero => intro v3 m r h; unfold lp_O_demand_2 at h; cases h
  | succ n ih =>
    intro v3 m r h
    unfold lp_O_demand_2 at h
    refine J.iload_n 3 d_O_demand_2 rfl rfl ?_
    refine J.aload_n 0 d_O_demand_3 rfl rfl ?_
    refine J.getI hG d_O_demand_4 fl_O_68 ck_89_6 ?_
    refine J.icmp_ge 43 d_O_demand_7 rfl (fun c => ?_) (fun c => ?_)
    · rw [if_pos c] at h
      exact J.sub (ls' := []) [] rfl (hk43  m _ h)
    · rw [if_neg c] at h
      refine J.aload_n 0 d_O_demand_10 rfl rfl ?_
      refine J.getF (n := 92) hG d_O_demand_11 fl_O_18 ck_89_4 rfl ?_
      refine J.iload_n 3 d_O_demand_14 rfl rfl ?_
      obtain ⟨x1, ex1, g, h⟩ := jld_some h
      refine J.il hG d_O_demand_15 g ex1 ?_
      refine J.nop (pc' := 16) rfl ?_
      refine J.iload_n 2 d_O_demand_16 rfl rfl ?_
      refine J.icmp_ne 37 d_O_demand_17 rfl (fun c => ?_) (fun c => ?_)
      · rw [if_neg c] at h
        refine J.iinc 3 (v := (1 : Int32)) (lv := [(3, .int (v3 + (1 : Int32))), (0, jr G 89), (1, .int v1), (2, .int v2)]) d_O_demand_37 rfl ki_1 (by decide) rfl ?_
        refine J.goto 2 d_O_demand_40 rfl ?_
        exact J.sub (ls' := [(0, jr G 89), (1, .int v1), (2, .int v2), (3, .int (v3 + (1 : Int32)))]) [1, 2, 3, 0] rfl (ih (v3 + (1 : Int32)) m _ h)
      · rw [if_pos c] at h
        refine J.aload_n 0 d_O_demand_20 rfl rfl ?_
        refine J.getF (n := 93) hG d_O_demand_21 fl_O_21 ck_89_5 rfl ?_
        refine J.iload_n 3 d_O_demand_24 rfl rfl ?_
        refine J.dup2 d_O_demand_25 rfl (jr_cat _ _) ?_
        obtain ⟨x2, ex2, g, h⟩ := jld_some h
        refine J.il hG d_O_demand_26 g ex2 ?_
        refine J.aload_n 0 d_O_demand_27 rfl rfl ?_
        refine J.nop (pc' := 28) rfl ?_
        refine J.iload_n 1 d_O_demand_28 rfl rfl ?_
        obtain ⟨x3, m4, zm4, h⟩ := jbd_some h
        refine J.cSi Y_C_bit (As := [.int v1]) (rest := [jr G 89, .int x2, .int v3, jr G 93]) d_O_demand_29 mi_C_bit ms_C_bit lk_O_43 ⟨rfl, rfl, Nat.le_of_ble_eq_true rfl⟩ (c_C_bit hG zm4) rfl (Nat.le_trans (jcR (jcI (jcI (jcR jcN)))) (Nat.le_of_ble_eq_true rfl)) ?_
        obtain ⟨x5, m6, zm6, h⟩ := jbd_some h
        refine J.cVi Y_O_placesOf (As := [.int x3]) (rest := [.int x2, .int v3, jr G 93]) hG d_O_demand_32 mi_O_placesOf mv_O_placesOf lk_O_69 ⟨rfl, rfl, Nat.le_of_ble_eq_true rfl⟩ cq_89 cc_9 (c_O_placesOf hG zm6) rfl (Nat.le_trans (jcI (jcI (jcR jcN))) (Nat.le_of_ble_eq_true rfl)) ?_
        refine J.ior d_O_demand_35 ?_
        obtain ⟨m7, hm7, g, h⟩ := jst_some h
        refine J.is hG d_O_demand_36 g hm7 ?_
        refine J.iinc 3 (v := (1 : Int32)) (lv := [(3, .int (v3 + (1 : Int32))), (0, jr G 89), (1, .int v1), (2, .int v2)]) d_O_demand_37 rfl ki_1 (by decide) rfl ?_
        refine J.goto 2 d_O_demand_40 rfl ?_
        exact J.sub (ls' := [(0, jr G 89), (1, .int v1), (2, .int v2), (3, .int (v3 + (1 : Int32)))]) [1, 2, 3, 0] rfl (ih (v3 + (1 : Int32)) m7 _ h)
theorem c_O_demand {G : jG} (hG : jFul G) {v1 : Int32} {v2 : Int32} {m : jMem} {r : (Unit × jMem)} (h : f_O_demand v1 v2 m = some r) : jCt G Y_O_demand [jr G 89, .int v1, .int v2] m (jrv r) := by
  refine jCt.ov (ls := [(0, jr G 89), (1, .int v1), (2, .int v2)]) mi_O_demand (jAvR (jAvI (jAvI jAvN))) (Nat.le_of_ble_eq_true rfl) ?_ ⟨rfl, rfl⟩
  unfold f_O_demand at h
  refine J.iconst (v := (0 : Int32)) d_O_demand_0 ki_0 ?_
  refine J.istore_n (lv := [(3, .int (0 : Int32)), (0, jr G 89), (1, .int v1), (2, .int v2)]) d_O_demand_1 rfl (by decide) rfl ?_
  refine J.sub (ls' := [(0, jr G 89), (1, .int v1), (2, .int v2), (3, .int (0 : Int32))]) [1, 2, 3, 0] rfl ?_
  refine jlp_O_demand_2 hG v1 v2 _ ?_ _ (0 : Int32) m _ h
  intro m8 r h
  cases h
  exact J.vret d_O_demand_43 rfl rfl

def lp_O_takesSet_29 (v1 : Int32) (k83 : jMem → Option (Int32 × jMem)) : Nat → Int32 → jMem → Option (Int32 × jMem)
  | 0, _, _ => none
  | n + 1, v2, m =>
    if (m 29 15) ≤ v2 then
      k83 m
    else
      jbd (f_C_isIn v1 v2 m) fun x6 m7 =>
      if x6 = 0 then
        lp_O_takesSet_29 v1 k83 n (v2 + (1 : Int32)) m7
      else
        if (12 : Int32) ≤ (m7 89 6) then
          lp_O_takesSet_29 v1 k83 n (v2 + (1 : Int32)) m7
        else
          jst 1 m7 92 (m7 89 6) v2 fun m8 =>
          jpu m8 89 6 ((m8 89 6) + (1 : Int32)) fun m9 =>
          lp_O_takesSet_29 v1 k83 n (v2 + (1 : Int32)) m9
def lp_O_takesSet_85 (v1 : Int32) (k123 : jMem → Option (Int32 × jMem)) : Nat → Int32 → jMem → Option (Int32 × jMem)
  | 0, _, _ => none
  | n + 1, v2, m =>
    if (m 89 6) ≤ v2 then
      k123 m
    else
      jld 1 m 92 v2 fun x11 =>
      jld 1 m 37 x11 fun x12 =>
      jbd (f_O_placesOf x12 m) fun x13 m14 =>
      jst 1 m14 93 v2 x13 fun m15 =>
      lp_O_takesSet_85 v1 k123 n (v2 + (1 : Int32)) m15
def lp_O_takesSet_125 (v1 : Int32) (k181 : jMem → Option (Int32 × jMem)) : Nat → Int32 → jMem → Option (Int32 × jMem)
  | 0, _, _ => none
  | n + 1, v2, m =>
    if (m 89 3) ≤ v2 then
      k181 m
    else
      jld 1 m 90 v2 fun x17 =>
      jbd (f_C_isIn v1 x17 m) fun x18 m19 =>
      if x18 = 0 then
        lp_O_takesSet_125 v1 k181 n (v2 + (1 : Int32)) m19
      else
        jld 1 m19 91 v2 fun x20 =>
        jbd (f_C_isIn v1 x20 m19) fun x21 m22 =>
        if x21 = 0 then
          lp_O_takesSet_125 v1 k181 n (v2 + (1 : Int32)) m22
        else
          jld 1 m22 90 v2 fun x23 =>
          jld 1 m22 91 v2 fun x24 =>
          jbd (f_O_demand x23 x24 m22) fun u25 m26 =>
          lp_O_takesSet_125 v1 k181 n (v2 + (1 : Int32)) m26
def f_O_takesSet (v1 : Int32) (m : jMem) : Option (Int32 × jMem) :=
  jbd (f_L_isSet v1 m) fun x1 m2 =>
  if x1 = 0 then
    some ((0 : Int32), m2)
  else
    jbd (f_JI_bitCount v1 m2) fun x3 m4 =>
    if x3 ≤ (12 : Int32) then
      jpu m4 89 6 (0 : Int32) fun m5 =>
      lp_O_takesSet_29 v1 (fun m10 =>
        lp_O_takesSet_85 v1 (fun m16 =>
          lp_O_takesSet_125 v1 (fun m27 =>
            some ((1 : Int32), m27)) 5000 (0 : Int32) m16) 5000 (0 : Int32) m10) 5000 (0 : Int32) m5
    else
      some ((0 : Int32), m4)
theorem jlp_O_takesSet_29 {G : jG} (hG : jFul G) (v1 : Int32) (k83 : jMem → Option (Int32 × jMem))
    (hk83 : ∀ (m : jMem) (r : (Int32 × jMem)), k83 m = some r → J G Y_O_takesSet 83 [(0, jr G 89), (1, .int v1)] [] m (jri r)) : ∀ (n : Nat) (v2 : Int32) (m : jMem) (r : (Int32 × jMem)), lp_O_takesSet_29 v1 k83 n v2 m = some r → J G Y_O_takesSet 29 [(0, jr G 89), (1, .int v1), (2, .int v2)] [] m (jri r) := by
  intro n
  induction n with
  | zero => intro v2 m r h; unfold lp_O_takesSet_29 at h; cases h
  | succ n ih =>
    intro v2 m r h
    unfold lp_O_takesSet_29 at h
    refine J.iload_n 2 d_O_takesSet_29 rfl rfl ?_
    refine J.aload_n 0 d_O_takesSet_30 rfl rfl ?_
    refine J.getF (n := 29) hG d_O_takesSet_31 fl_O_35 ck_89_0 rfl ?_
    refine J.getI hG d_O_takesSet_34 fl_O_47 ck_29_15 ?_
    refine J.icmp_ge 83 d_O_takesSet_37 rfl (fun c => ?_) (fun c => ?_)
    · rw [if_pos c] at h
      exact J.sub (ls' := [(0, jr G 89), (1, .int v1)]) [0, 1] rfl (hk83  m _ h)
    · rw [if_neg c] at h
      refine J.iload_n 1 d_O_takesSet_40 rfl rfl ?_
      refine J.iload_n 2 d_O_takesSet_41 rfl rfl ?_
      obtain ⟨x6, m7, zm7, h⟩ := jbd_some h
      refine J.cSi Y_C_isIn (As := [.int v1, .int v2]) (rest := []) d_O_takesSet_42 mi_C_isIn ms_C_isIn lk_O_55 ⟨rfl, rfl, Nat.le_of_ble_eq_true rfl⟩ (c_C_isIn hG zm7) rfl (Nat.le_trans jcN (Nat.le_of_ble_eq_true rfl)) ?_
      refine J.nop (pc' := 45) rfl ?_
      refine J.if_eq 77 d_O_takesSet_45 rfl (fun c => ?_) (fun c => ?_)
      · rw [if_pos c] at h
        refine J.iinc 2 (v := (1 : Int32)) (lv := [(2, .int (v2 + (1 : Int32))), (0, jr G 89), (1, .int v1)]) d_O_takesSet_77 rfl ki_1 (by decide) rfl ?_
        refine J.goto 29 d_O_takesSet_80 rfl ?_
        exact J.sub (ls' := [(0, jr G 89), (1, .int v1), (2, .int (v2 + (1 : Int32)))]) [1, 2, 0] rfl (ih (v2 + (1 : Int32)) m7 _ h)
      · rw [if_neg c] at h
        refine J.aload_n 0 d_O_takesSet_48 rfl rfl ?_
        refine J.getI hG d_O_takesSet_49 fl_O_68 ck_89_6 ?_
        refine J.bipush (v := (12 : Int32)) d_O_takesSet_52 kb_12 ?_
        refine J.icmp_ge 77 d_O_takesSet_54 rfl (fun c => ?_) (fun c => ?_)
        · rw [if_pos c] at h
          refine J.iinc 2 (v := (1 : Int32)) (lv := [(2, .int (v2 + (1 : Int32))), (0, jr G 89), (1, .int v1)]) d_O_takesSet_77 rfl ki_1 (by decide) rfl ?_
          refine J.goto 29 d_O_takesSet_80 rfl ?_
          exact J.sub (ls' := [(0, jr G 89), (1, .int v1), (2, .int (v2 + (1 : Int32)))]) [1, 2, 0] rfl (ih (v2 + (1 : Int32)) m7 _ h)
        · rw [if_neg c] at h
          refine J.aload_n 0 d_O_takesSet_57 rfl rfl ?_
          refine J.getF (n := 92) hG d_O_takesSet_58 fl_O_18 ck_89_4 rfl ?_
          refine J.aload_n 0 d_O_takesSet_61 rfl rfl ?_
          refine J.nop (pc' := 62) rfl ?_
          refine J.getI hG d_O_takesSet_62 fl_O_68 ck_89_6 ?_
          refine J.iload_n 2 d_O_takesSet_65 rfl rfl ?_
          obtain ⟨m8, hm8, g, h⟩ := jst_some h
          refine J.is hG d_O_takesSet_66 g hm8 ?_
          refine J.aload_n 0 d_O_takesSet_67 rfl rfl ?_
          refine J.dup d_O_takesSet_68 (jr_cat _ _) ?_
          refine J.getI hG d_O_takesSet_69 fl_O_68 ck_89_6 ?_
          refine J.iconst (v := (1 : Int32)) d_O_takesSet_72 ki_1 ?_
          refine J.iadd d_O_takesSet_73 ?_
          refine J.nop (pc' := 74) rfl ?_
          obtain ⟨m9, hm9, h⟩ := jpu_some h
          refine J.putI hG d_O_takesSet_74 fl_O_68 fp_9_6 ck_89_6 hm9 ?_
          refine J.iinc 2 (v := (1 : Int32)) (lv := [(2, .int (v2 + (1 : Int32))), (0, jr G 89), (1, .int v1)]) d_O_takesSet_77 rfl ki_1 (by decide) rfl ?_
          refine J.goto 29 d_O_takesSet_80 rfl ?_
          exact J.sub (ls' := [(0, jr G 89), (1, .int v1), (2, .int (v2 + (1 : Int32)))]) [1, 2, 0] rfl (ih (v2 + (1 : Int32)) m9 _ h)
theorem jlp_O_takesSet_85 {G : jG} (hG : jFul G) (v1 : Int32) (k123 : jMem → Option (Int32 × jMem))
    (hk123 : ∀ (m : jMem) (r : (Int32 × jMem)), k123 m = some r → J G Y_O_takesSet 123 [(0, jr G 89), (1, .int v1)] [] m (jri r)) : ∀ (n : Nat) (v2 : Int32) (m : jMem) (r : (Int32 × jMem)), lp_O_takesSet_85 v1 k123 n v2 m = some r → J G Y_O_takesSet 85 [(0, jr G 89), (1, .int v1), (2, .int v2)] [] m (jri r) := by
  intro n
  induction n with
  | zero => intro v2 m r h; unfold lp_O_takesSet_85 at h; cases h
  | succ n ih =>
    intro v2 m r h
    unfold lp_O_takesSet_85 at h
    refine J.iload_n 2 d_O_takesSet_85 rfl rfl ?_
    refine J.aload_n 0 d_O_takesSet_86 rfl rfl ?_
    refine J.getI hG d_O_takesSet_87 fl_O_68 ck_89_6 ?_
    refine J.icmp_ge 123 d_O_takesSet_90 rfl (fun c => ?_) (fun c => ?_)
    · rw [if_pos c] at h
      exact J.sub (ls' := [(0, jr G 89), (1, .int v1)]) [0, 1] rfl (hk123  m _ h)
    · rw [if_neg c] at h
      refine J.aload_n 0 d_O_takesSet_93 rfl rfl ?_
      refine J.getF (n := 93) hG d_O_takesSet_94 fl_O_21 ck_89_5 rfl ?_
      refine J.iload_n 2 d_O_takesSet_97 rfl rfl ?_
      refine J.aload_n 0 d_O_takesSet_98 rfl rfl ?_
      refine J.nop (pc' := 99) rfl ?_
      refine J.aload_n 0 d_O_takesSet_99 rfl rfl ?_
      refine J.getF (n := 29) hG d_O_takesSet_100 fl_O_35 ck_89_0 rfl ?_
      refine J.getF (n := 37) hG d_O_takesSet_103 fl_O_52 ck_29_7 rfl ?_
      refine J.aload_n 0 d_O_takesSet_106 rfl rfl ?_
      refine J.getF (n := 92) hG d_O_takesSet_107 fl_O_18 ck_89_4 rfl ?_
      refine J.iload_n 2 d_O_takesSet_110 rfl rfl ?_
      obtain ⟨x11, ex11, g, h⟩ := jld_some h
      refine J.il hG d_O_takesSet_111 g ex11 ?_
      obtain ⟨x12, ex12, g, h⟩ := jld_some h
      refine J.il hG d_O_takesSet_112 g ex12 ?_
      refine J.nop (pc' := 113) rfl ?_
      obtain ⟨x13, m14, zm14, h⟩ := jbd_some h
      refine J.cVi Y_O_placesOf (As := [.int x12]) (rest := [.int v2, jr G 93]) hG d_O_takesSet_113 mi_O_placesOf mv_O_placesOf lk_O_69 ⟨rfl, rfl, Nat.le_of_ble_eq_true rfl⟩ cq_89 cc_9 (c_O_placesOf hG zm14) rfl (Nat.le_trans (jcI (jcR jcN)) (Nat.le_of_ble_eq_true rfl)) ?_
      obtain ⟨m15, hm15, g, h⟩ := jst_some h
      refine J.is hG d_O_takesSet_116 g hm15 ?_
      refine J.iinc 2 (v := (1 : Int32)) (lv := [(2, .int (v2 + (1 : Int32))), (0, jr G 89), (1, .int v1)]) d_O_takesSet_117 rfl ki_1 (by decide) rfl ?_
      refine J.goto 85 d_O_takesSet_120 rfl ?_
      exact J.sub (ls' := [(0, jr G 89), (1, .int v1), (2, .int (v2 + (1 : Int32)))]) [1, 2, 0] rfl (ih (v2 + (1 : Int32)) m15 _ h)
theorem jlp_O_takesSet_125 {G : jG} (hG : jFul G) (v1 : Int32) (k181 : jMem → Option (Int32 × jMem))
    (hk181 : ∀ (m : jMem) (r : (Int32 × jMem)), k181 m = some r → J G Y_O_takesSet 181 [] [] m (jri r)) : ∀ (n : Nat) (v2 : Int32) (m : jMem) (r : (Int32 × jMem)), lp_O_takesSet_125 v1 k181 n v2 m = some r → J G Y_O_takesSet 125 [(0, jr G 89), (1, .int v1), (2, .int v2)] [] m (jri r) := by
  intro n
  induction n with
  | zero => intro v2 m r h; unfold lp_O_takesSet_125 at h; cases h
  | succ n ih =>
    intro v2 m r h
    unfold lp_O_takesSet_125 at h
    refine J.iload_n 2 d_O_takesSet_125 rfl rfl ?_
    refine J.aload_n 0 d_O_takesSet_126 rfl rfl ?_
    refine J.getI hG d_O_takesSet_127 fl_O_39 ck_89_3 ?_
    refine J.icmp_ge 181 d_O_takesSet_130 rfl (fun c => ?_) (fun c => ?_)
    · rw [if_pos c] at h
      exact J.sub (ls' := []) [] rfl (hk181  m _ h)
    · rw [if_neg c] at h
      refine J.iload_n 1 d_O_takesSet_133 rfl rfl ?_
      refine J.aload_n 0 d_O_takesSet_134 rfl rfl ?_
      refine J.getF (n := 90) hG d_O_takesSet_135 fl_O_9 ck_89_1 rfl ?_
      refine J.iload_n 2 d_O_takesSet_138 rfl rfl ?_
      refine J.nop (pc' := 139) rfl ?_
      obtain ⟨x17, ex17, g, h⟩ := jld_some h
      refine J.il hG d_O_takesSet_139 g ex17 ?_
      obtain ⟨x18, m19, zm19, h⟩ := jbd_some h
      refine J.cSi Y_C_isIn (As := [.int v1, .int x17]) (rest := []) d_O_takesSet_140 mi_C_isIn ms_C_isIn lk_O_55 ⟨rfl, rfl, Nat.le_of_ble_eq_true rfl⟩ (c_C_isIn hG zm19) rfl (Nat.le_trans jcN (Nat.le_of_ble_eq_true rfl)) ?_
      refine J.if_eq 175 d_O_takesSet_143 rfl (fun c => ?_) (fun c => ?_)
      · rw [if_pos c] at h
        refine J.iinc 2 (v := (1 : Int32)) (lv := [(2, .int (v2 + (1 : Int32))), (0, jr G 89), (1, .int v1)]) d_O_takesSet_175 rfl ki_1 (by decide) rfl ?_
        refine J.goto 125 d_O_takesSet_178 rfl ?_
        exact J.sub (ls' := [(0, jr G 89), (1, .int v1), (2, .int (v2 + (1 : Int32)))]) [1, 2, 0] rfl (ih (v2 + (1 : Int32)) m19 _ h)
      · rw [if_neg c] at h
        refine J.iload_n 1 d_O_takesSet_146 rfl rfl ?_
        refine J.aload_n 0 d_O_takesSet_147 rfl rfl ?_
        refine J.getF (n := 91) hG d_O_takesSet_148 fl_O_15 ck_89_2 rfl ?_
        refine J.iload_n 2 d_O_takesSet_151 rfl rfl ?_
        obtain ⟨x20, ex20, g, h⟩ := jld_some h
        refine J.il hG d_O_takesSet_152 g ex20 ?_
        refine J.nop (pc' := 153) rfl ?_
        obtain ⟨x21, m22, zm22, h⟩ := jbd_some h
        refine J.cSi Y_C_isIn (As := [.int v1, .int x20]) (rest := []) d_O_takesSet_153 mi_C_isIn ms_C_isIn lk_O_55 ⟨rfl, rfl, Nat.le_of_ble_eq_true rfl⟩ (c_C_isIn hG zm22) rfl (Nat.le_trans jcN (Nat.le_of_ble_eq_true rfl)) ?_
        refine J.if_eq 175 d_O_takesSet_156 rfl (fun c => ?_) (fun c => ?_)
        · rw [if_pos c] at h
          refine J.iinc 2 (v := (1 : Int32)) (lv := [(2, .int (v2 + (1 : Int32))), (0, jr G 89), (1, .int v1)]) d_O_takesSet_175 rfl ki_1 (by decide) rfl ?_
          refine J.goto 125 d_O_takesSet_178 rfl ?_
          exact J.sub (ls' := [(0, jr G 89), (1, .int v1), (2, .int (v2 + (1 : Int32)))]) [1, 2, 0] rfl (ih (v2 + (1 : Int32)) m22 _ h)
        · rw [if_neg c] at h
          refine J.aload_n 0 d_O_takesSet_159 rfl rfl ?_
          refine J.aload_n 0 d_O_takesSet_160 rfl rfl ?_
          refine J.getF (n := 90) hG d_O_takesSet_161 fl_O_9 ck_89_1 rfl ?_
          refine J.iload_n 2 d_O_takesSet_164 rfl rfl ?_
          obtain ⟨x23, ex23, g, h⟩ := jld_some h
          refine J.il hG d_O_takesSet_165 g ex23 ?_
          refine J.aload_n 0 d_O_takesSet_166 rfl rfl ?_
          refine J.nop (pc' := 167) rfl ?_
          refine J.getF (n := 91) hG d_O_takesSet_167 fl_O_15 ck_89_2 rfl ?_
          refine J.iload_n 2 d_O_takesSet_170 rfl rfl ?_
          obtain ⟨x24, ex24, g, h⟩ := jld_some h
          refine J.il hG d_O_takesSet_171 g ex24 ?_
          obtain ⟨u25, m26, zm26, h⟩ := jbd_some h
          refine J.cVv Y_O_demand (As := [.int x23, .int x24]) (rest := []) hG d_O_takesSet_172 mi_O_demand mv_O_demand lk_O_72 ⟨rfl, rfl, Nat.le_of_ble_eq_true rfl⟩ cq_89 cc_9 (c_O_demand hG zm26) rfl (Nat.le_trans jcN (Nat.le_of_ble_eq_true rfl)) ?_
          refine J.iinc 2 (v := (1 : Int32)) (lv := [(2, .int (v2 + (1 : Int32))), (0, jr G 89), (1, .int v1)]) d_O_takesSet_175 rfl ki_1 (by decide) rfl ?_
          refine J.goto 125 d_O_takesSet_178 rfl ?_
          exact J.sub (ls' := [(0, jr G 89), (1, .int v1), (2, .int (v2 + (1 : Int32)))]) [1, 2, 0] rfl (ih (v2 + (1 : Int32)) m26 _ h)
theorem c_O_takesSet {G : jG} (hG : jFul G) {v1 : Int32} {m : jMem} {r : (Int32 × jMem)} (h : f_O_takesSet v1 m = some r) : jCt G Y_O_takesSet [jr G 89, .int v1] m (jri r) := by
  refine jCt.ov (ls := [(0, jr G 89), (1, .int v1)]) mi_O_takesSet (jAvR (jAvI jAvN)) (Nat.le_of_ble_eq_true rfl) ?_ ⟨rfl, rfl⟩
  unfold f_O_takesSet at h
  refine J.aload_n 0 d_O_takesSet_0 rfl rfl ?_
  refine J.getF (n := 29) hG d_O_takesSet_1 fl_O_35 ck_89_0 rfl ?_
  refine J.iload_n 1 d_O_takesSet_4 rfl rfl ?_
  obtain ⟨x1, m2, zm2, h⟩ := jbd_some h
  refine J.cVi Y_L_isSet (As := [.int v1]) (rest := []) hG d_O_takesSet_5 mi_L_isSet mv_L_isSet lk_O_59 ⟨rfl, rfl, Nat.le_of_ble_eq_true rfl⟩ cq_29 cc_4 (c_L_isSet hG zm2) rfl (Nat.le_trans jcN (Nat.le_of_ble_eq_true rfl)) ?_
  refine J.if_eq 20 d_O_takesSet_8 rfl (fun c => ?_) (fun c => ?_)
  · rw [if_pos c] at h
    refine J.iconst (v := (0 : Int32)) d_O_takesSet_20 ki_0 ?_
    cases h
    exact J.iret d_O_takesSet_21 rfl rfl rfl
  · rw [if_neg c] at h
    refine J.iload_n 1 d_O_takesSet_11 rfl rfl ?_
    obtain ⟨x3, m4, zm4, h⟩ := jbd_some h
    refine J.cSi Y_JI_bitCount (As := [.int v1]) (rest := []) d_O_takesSet_12 mi_JI_bitCount ms_JI_bitCount lk_O_63 ⟨rfl, rfl, Nat.le_of_ble_eq_true rfl⟩ (c_JI_bitCount hG zm4) rfl (Nat.le_trans jcN (Nat.le_of_ble_eq_true rfl)) ?_
    refine J.bipush (v := (12 : Int32)) d_O_takesSet_15 kb_12 ?_
    refine J.nop (pc' := 17) rfl ?_
    refine J.icmp_le 22 d_O_takesSet_17 rfl (fun c => ?_) (fun c => ?_)
    · rw [if_pos c] at h
      refine J.aload_n 0 d_O_takesSet_22 rfl rfl ?_
      refine J.iconst (v := (0 : Int32)) d_O_takesSet_23 ki_0 ?_
      obtain ⟨m5, hm5, h⟩ := jpu_some h
      refine J.putI hG d_O_takesSet_24 fl_O_68 fp_9_6 ck_89_6 hm5 ?_
      refine J.iconst (v := (0 : Int32)) d_O_takesSet_27 ki_0 ?_
      refine J.istore_n (lv := [(2, .int (0 : Int32)), (0, jr G 89), (1, .int v1)]) d_O_takesSet_28 rfl (by decide) rfl ?_
      refine J.sub (ls' := [(0, jr G 89), (1, .int v1), (2, .int (0 : Int32))]) [1, 2, 0] rfl ?_
      refine jlp_O_takesSet_29 hG v1 _ ?_ _ (0 : Int32) m5 _ h
      intro m10 r h
      refine J.iconst (v := (0 : Int32)) d_O_takesSet_83 ki_0 ?_
      refine J.istore_n (lv := [(2, .int (0 : Int32)), (0, jr G 89), (1, .int v1)]) d_O_takesSet_84 rfl (by decide) rfl ?_
      refine J.sub (ls' := [(0, jr G 89), (1, .int v1), (2, .int (0 : Int32))]) [1, 2, 0] rfl ?_
      refine jlp_O_takesSet_85 hG v1 _ ?_ _ (0 : Int32) m10 _ h
      intro m16 r h
      refine J.iconst (v := (0 : Int32)) d_O_takesSet_123 ki_0 ?_
      refine J.istore_n (lv := [(2, .int (0 : Int32)), (0, jr G 89), (1, .int v1)]) d_O_takesSet_124 rfl (by decide) rfl ?_
      refine J.sub (ls' := [(0, jr G 89), (1, .int v1), (2, .int (0 : Int32))]) [1, 2, 0] rfl ?_
      refine jlp_O_takesSet_125 hG v1 _ ?_ _ (0 : Int32) m16 _ h
      intro m27 r h
      refine J.iconst (v := (1 : Int32)) d_O_takesSet_181 ki_1 ?_
      cases h
      exact J.iret d_O_takesSet_182 rfl rfl rfl
    · rw [if_neg c] at h
      refine J.iconst (v := (0 : Int32)) d_O_takesSet_20 ki_0 ?_
      cases h
      exact J.iret d_O_takesSet_21 rfl rfl rfl

def lp_O_waysAhead_5 (v1 : Int32) (v2 : Int32) (k42 : Int32 → jMem → Option (Int32 × jMem)) : Nat → Int32 → Int32 → jMem → Option (Int32 × jMem)
  | 0, _, _, _ => none
  | n + 1, v3, v4, m =>
    if v2 ≤ v4 then
      k42 v3 m
    else
      jbd (f_O_mayFollow v4 v1 m) fun x1 m2 =>
      if x1 = 0 then
        lp_O_waysAhead_5 v1 v2 k42 n v3 (v4 + (1 : Int32)) m2
      else
        jbd (f_C_bit v4 m2) fun x3 m4 =>
        jld 1 m4 94 (v1 ||| x3) fun x5 =>
        lp_O_waysAhead_5 v1 v2 k42 n (v3 + x5) (v4 + (1 : Int32)) m4
def f_O_waysAhead (v1 : Int32) (v2 : Int32) (m : jMem) : Option (Int32 × jMem) :=
  lp_O_waysAhead_5 v1 v2 (fun w7 m6 =>
    some (w7, m6)) 5000 (0 : Int32) (0 : Int32) m
theorem jlp_O_waysAhead_5 {G : jG} (hG : jFul G) (v1 : Int32) (v2 : Int32) (k42 : Int32 → jMem → Option (Int32 × jMem))
    (hk42 : ∀ (v3 : Int32) (m : jMem) (r : (Int32 × jMem)), k42 v3 m = some r → J G Y_O_waysAhead 42 [(3, .int v3)] [] m (jri r)) : ∀ (n : Nat) (v3 : Int32) (v4 : Int32) (m : jMem) (r : (Int32 × jMem)), lp_O_waysAhead_5 v1 v2 k42 n v3 v4 m = some r → J G Y_O_waysAhead 5 [(0, jr G 89), (1, .int v1), (2, .int v2), (3, .int v3), (4, .int v4)] [] m (jri r) := by
  intro n
  induction n with
  | zero => intro v3 v4 m r h; unfold lp_O_waysAhead_5 at h; cases h
  | succ n ih =>
    intro v3 v4 m r h
    unfold lp_O_waysAhead_5 at h
    refine J.iload 4 d_O_waysAhead_5 rfl ?_
    refine J.iload_n 2 d_O_waysAhead_7 rfl rfl ?_
    refine J.icmp_ge 42 d_O_waysAhead_8 rfl (fun c => ?_) (fun c => ?_)
    · rw [if_pos c] at h
      exact J.sub (ls' := [(3, .int v3)]) [3] rfl (hk42 v3 m _ h)
    · rw [if_neg c] at h
      refine J.aload_n 0 d_O_waysAhead_11 rfl rfl ?_
      refine J.iload 4 d_O_waysAhead_12 rfl ?_
      refine J.iload_n 1 d_O_waysAhead_14 rfl rfl ?_
      obtain ⟨x1, m2, zm2, h⟩ := jbd_some h
      refine J.cVi Y_O_mayFollow (As := [.int v4, .int v1]) (rest := []) hG d_O_waysAhead_15 mi_O_mayFollow mv_O_mayFollow lk_O_76 ⟨rfl, rfl, Nat.le_of_ble_eq_true rfl⟩ cq_89 cc_9 (c_O_mayFollow hG zm2) rfl (Nat.le_trans jcN (Nat.le_of_ble_eq_true rfl)) ?_
      refine J.if_eq 36 d_O_waysAhead_18 rfl (fun c => ?_) (fun c => ?_)
      · rw [if_pos c] at h
        refine J.iinc 4 (v := (1 : Int32)) (lv := [(4, .int (v4 + (1 : Int32))), (0, jr G 89), (1, .int v1), (2, .int v2), (3, .int v3)]) d_O_waysAhead_36 rfl ki_1 (by decide) rfl ?_
        refine J.goto 5 d_O_waysAhead_39 rfl ?_
        exact J.sub (ls' := [(0, jr G 89), (1, .int v1), (2, .int v2), (3, .int v3), (4, .int (v4 + (1 : Int32)))]) [1, 2, 3, 4, 0] rfl (ih v3 (v4 + (1 : Int32)) m2 _ h)
      · rw [if_neg c] at h
        refine J.nop (pc' := 21) rfl ?_
        refine J.iload_n 3 d_O_waysAhead_21 rfl rfl ?_
        refine J.aload_n 0 d_O_waysAhead_22 rfl rfl ?_
        refine J.getF (n := 94) hG d_O_waysAhead_23 fl_O_24 ck_89_7 rfl ?_
        refine J.iload_n 1 d_O_waysAhead_26 rfl rfl ?_
        refine J.iload 4 d_O_waysAhead_27 rfl ?_
        obtain ⟨x3, m4, zm4, h⟩ := jbd_some h
        refine J.cSi Y_C_bit (As := [.int v4]) (rest := [.int v1, jr G 94, .int v3]) d_O_waysAhead_29 mi_C_bit ms_C_bit lk_O_43 ⟨rfl, rfl, Nat.le_of_ble_eq_true rfl⟩ (c_C_bit hG zm4) rfl (Nat.le_trans (jcI (jcR (jcI jcN))) (Nat.le_of_ble_eq_true rfl)) ?_
        refine J.ior d_O_waysAhead_32 ?_
        obtain ⟨x5, ex5, g, h⟩ := jld_some h
        refine J.il hG d_O_waysAhead_33 g ex5 ?_
        refine J.nop (pc' := 34) rfl ?_
        refine J.iadd d_O_waysAhead_34 ?_
        refine J.istore_n (lv := [(3, .int (v3 + x5)), (0, jr G 89), (1, .int v1), (2, .int v2), (4, .int v4)]) d_O_waysAhead_35 rfl (by decide) rfl ?_
        refine J.iinc 4 (v := (1 : Int32)) (lv := [(4, .int (v4 + (1 : Int32))), (3, .int (v3 + x5)), (0, jr G 89), (1, .int v1), (2, .int v2)]) d_O_waysAhead_36 rfl ki_1 (by decide) rfl ?_
        refine J.goto 5 d_O_waysAhead_39 rfl ?_
        exact J.sub (ls' := [(0, jr G 89), (1, .int v1), (2, .int v2), (3, .int (v3 + x5)), (4, .int (v4 + (1 : Int32)))]) [2, 3, 4, 1, 0] rfl (ih (v3 + x5) (v4 + (1 : Int32)) m4 _ h)
theorem c_O_waysAhead {G : jG} (hG : jFul G) {v1 : Int32} {v2 : Int32} {m : jMem} {r : (Int32 × jMem)} (h : f_O_waysAhead v1 v2 m = some r) : jCt G Y_O_waysAhead [jr G 89, .int v1, .int v2] m (jri r) := by
  refine jCt.ov (ls := [(0, jr G 89), (1, .int v1), (2, .int v2)]) mi_O_waysAhead (jAvR (jAvI (jAvI jAvN))) (Nat.le_of_ble_eq_true rfl) ?_ ⟨rfl, rfl⟩
  unfold f_O_waysAhead at h
  refine J.iconst (v := (0 : Int32)) d_O_waysAhead_0 ki_0 ?_
  refine J.istore_n (lv := [(3, .int (0 : Int32)), (0, jr G 89), (1, .int v1), (2, .int v2)]) d_O_waysAhead_1 rfl (by decide) rfl ?_
  refine J.iconst (v := (0 : Int32)) d_O_waysAhead_2 ki_0 ?_
  refine J.istore (lv := [(4, .int (0 : Int32)), (3, .int (0 : Int32)), (0, jr G 89), (1, .int v1), (2, .int v2)]) d_O_waysAhead_3 (by decide) rfl ?_
  refine J.sub (ls' := [(0, jr G 89), (1, .int v1), (2, .int v2), (3, .int (0 : Int32)), (4, .int (0 : Int32))]) [2, 3, 4, 1, 0] rfl ?_
  refine jlp_O_waysAhead_5 hG v1 v2 _ ?_ _ (0 : Int32) (0 : Int32) m _ h
  intro w7 m6 r h
  refine J.iload_n 0 d_O_waysAhead_42 rfl rfl ?_
  cases h
  exact J.iret d_O_waysAhead_43 rfl (vp_nar_int _) rfl

def lp_O_memberAt_2 (v1 : Int32) (v2 : Int32) (k41 : Int32 → jMem → Option (Int32 × jMem)) (k49 : jMem → Option (Int32 × jMem)) : Nat → Int32 → jMem → Option (Int32 × jMem)
  | 0, _, _ => none
  | n + 1, v3, m =>
    if (m 89 6) ≤ v3 then
      k49 m
    else
      jbd (f_O_mayFollow v3 v1 m) fun x1 m2 =>
      if x1 = 0 then
        lp_O_memberAt_2 v1 v2 k41 k49 n (v3 + (1 : Int32)) m2
      else
        jbd (f_O_waysAhead v1 v3 m2) fun x3 m4 =>
        jbd (f_C_bit v3 m4) fun x5 m6 =>
        jld 1 m6 94 (v1 ||| x5) fun x7 =>
        if (x3 + x7) ≤ v2 then
          lp_O_memberAt_2 v1 v2 k41 k49 n (v3 + (1 : Int32)) m6
        else
          k41 v3 m6
def f_O_memberAt (v1 : Int32) (v2 : Int32) (m : jMem) : Option (Int32 × jMem) :=
  lp_O_memberAt_2 v1 v2 (fun w9 m8 =>
    some (w9, m8)) (fun m10 =>
    some ((-1 : Int32), m10)) 5000 (0 : Int32) m
theorem jlp_O_memberAt_2 {G : jG} (hG : jFul G) (v1 : Int32) (v2 : Int32) (k41 : Int32 → jMem → Option (Int32 × jMem)) (k49 : jMem → Option (Int32 × jMem))
    (hk41 : ∀ (v3 : Int32) (m : jMem) (r : (Int32 × jMem)), k41 v3 m = some r → J G Y_O_memberAt 41 [(3, .int v3)] [] m (jri r))
    (hk49 : ∀ (m : jMem) (r : (Int32 × jMem)), k49 m = some r → J G Y_O_memberAt 49 [] [] m (jri r)) : ∀ (n : Nat) (v3 : Int32) (m : jMem) (r : (Int32 × jMem)), lp_O_memberAt_2 v1 v2 k41 k49 n v3 m = some r → J G Y_O_memberAt 2 [(0, jr G 89), (1, .int v1), (2, .int v2), (3, .int v3)] [] m (jri r) := by
  intro n
  induction n with
  | zero => intro v3 m r h; unfold lp_O_memberAt_2 at h; cases h
  | succ n ih =>
    intro v3 m r h
    unfold lp_O_memberAt_2 at h
    refine J.iload_n 3 d_O_memberAt_2 rfl rfl ?_
    refine J.aload_n 0 d_O_memberAt_3 rfl rfl ?_
    refine J.getI hG d_O_memberAt_4 fl_O_68 ck_89_6 ?_
    refine J.icmp_ge 49 d_O_memberAt_7 rfl (fun c => ?_) (fun c => ?_)
    · rw [if_pos c] at h
      exact J.sub (ls' := []) [] rfl (hk49  m _ h)
    · rw [if_neg c] at h
      refine J.aload_n 0 d_O_memberAt_10 rfl rfl ?_
      refine J.iload_n 3 d_O_memberAt_11 rfl rfl ?_
      refine J.iload_n 1 d_O_memberAt_12 rfl rfl ?_
      obtain ⟨x1, m2, zm2, h⟩ := jbd_some h
      refine J.cVi Y_O_mayFollow (As := [.int v3, .int v1]) (rest := []) hG d_O_memberAt_13 mi_O_mayFollow mv_O_mayFollow lk_O_76 ⟨rfl, rfl, Nat.le_of_ble_eq_true rfl⟩ cq_89 cc_9 (c_O_mayFollow hG zm2) rfl (Nat.le_trans jcN (Nat.le_of_ble_eq_true rfl)) ?_
      refine J.nop (pc' := 16) rfl ?_
      refine J.if_eq 43 d_O_memberAt_16 rfl (fun c => ?_) (fun c => ?_)
      · rw [if_pos c] at h
        refine J.iinc 3 (v := (1 : Int32)) (lv := [(3, .int (v3 + (1 : Int32))), (0, jr G 89), (1, .int v1), (2, .int v2)]) d_O_memberAt_43 rfl ki_1 (by decide) rfl ?_
        refine J.goto 2 d_O_memberAt_46 rfl ?_
        exact J.sub (ls' := [(0, jr G 89), (1, .int v1), (2, .int v2), (3, .int (v3 + (1 : Int32)))]) [1, 2, 3, 0] rfl (ih (v3 + (1 : Int32)) m2 _ h)
      · rw [if_neg c] at h
        refine J.iload_n 2 d_O_memberAt_19 rfl rfl ?_
        refine J.aload_n 0 d_O_memberAt_20 rfl rfl ?_
        refine J.iload_n 1 d_O_memberAt_21 rfl rfl ?_
        refine J.iload_n 3 d_O_memberAt_22 rfl rfl ?_
        obtain ⟨x3, m4, zm4, h⟩ := jbd_some h
        refine J.cVi Y_O_waysAhead (As := [.int v1, .int v3]) (rest := [.int v2]) hG d_O_memberAt_23 mi_O_waysAhead mv_O_waysAhead lk_O_87 ⟨rfl, rfl, Nat.le_of_ble_eq_true rfl⟩ cq_89 cc_9 (c_O_waysAhead hG zm4) rfl (Nat.le_trans (jcI jcN) (Nat.le_of_ble_eq_true rfl)) ?_
        refine J.aload_n 0 d_O_memberAt_26 rfl rfl ?_
        refine J.getF (n := 94) hG d_O_memberAt_27 fl_O_24 ck_89_7 rfl ?_
        refine J.nop (pc' := 30) rfl ?_
        refine J.iload_n 1 d_O_memberAt_30 rfl rfl ?_
        refine J.iload_n 3 d_O_memberAt_31 rfl rfl ?_
        obtain ⟨x5, m6, zm6, h⟩ := jbd_some h
        refine J.cSi Y_C_bit (As := [.int v3]) (rest := [.int v1, jr G 94, .int x3, .int v2]) d_O_memberAt_32 mi_C_bit ms_C_bit lk_O_43 ⟨rfl, rfl, Nat.le_of_ble_eq_true rfl⟩ (c_C_bit hG zm6) rfl (Nat.le_trans (jcI (jcR (jcI (jcI jcN)))) (Nat.le_of_ble_eq_true rfl)) ?_
        refine J.ior d_O_memberAt_35 ?_
        obtain ⟨x7, ex7, g, h⟩ := jld_some h
        refine J.il hG d_O_memberAt_36 g ex7 ?_
        refine J.iadd d_O_memberAt_37 ?_
        refine J.icmp_ge 43 d_O_memberAt_38 rfl (fun c => ?_) (fun c => ?_)
        · rw [if_pos c] at h
          refine J.iinc 3 (v := (1 : Int32)) (lv := [(3, .int (v3 + (1 : Int32))), (0, jr G 89), (1, .int v1), (2, .int v2)]) d_O_memberAt_43 rfl ki_1 (by decide) rfl ?_
          refine J.goto 2 d_O_memberAt_46 rfl ?_
          exact J.sub (ls' := [(0, jr G 89), (1, .int v1), (2, .int v2), (3, .int (v3 + (1 : Int32)))]) [1, 2, 3, 0] rfl (ih (v3 + (1 : Int32)) m6 _ h)
        · rw [if_neg c] at h
          exact J.sub (ls' := [(3, .int v3)]) [3] rfl (hk41 v3 m6 _ h)
theorem c_O_memberAt {G : jG} (hG : jFul G) {v1 : Int32} {v2 : Int32} {m : jMem} {r : (Int32 × jMem)} (h : f_O_memberAt v1 v2 m = some r) : jCt G Y_O_memberAt [jr G 89, .int v1, .int v2] m (jri r) := by
  refine jCt.ov (ls := [(0, jr G 89), (1, .int v1), (2, .int v2)]) mi_O_memberAt (jAvR (jAvI (jAvI jAvN))) (Nat.le_of_ble_eq_true rfl) ?_ ⟨rfl, rfl⟩
  unfold f_O_memberAt at h
  refine J.iconst (v := (0 : Int32)) d_O_memberAt_0 ki_0 ?_
  refine J.istore_n (lv := [(3, .int (0 : Int32)), (0, jr G 89), (1, .int v1), (2, .int v2)]) d_O_memberAt_1 rfl (by decide) rfl ?_
  refine J.sub (ls' := [(0, jr G 89), (1, .int v1), (2, .int v2), (3, .int (0 : Int32))]) [1, 2, 3, 0] rfl ?_
  refine jlp_O_memberAt_2 hG v1 v2 _ _ ?_ ?_ _ (0 : Int32) m _ h
  · intro w9 m8 r h
    refine J.iload_n 0 d_O_memberAt_41 rfl rfl ?_
    cases h
    exact J.iret d_O_memberAt_42 rfl (vp_nar_int _) rfl
  · intro m10 r h
    refine J.iconst (v := (-1 : Int32)) d_O_memberAt_49 ki_m1 ?_
    cases h
    exact J.iret d_O_memberAt_50 rfl (vp_nar_int _) rfl

def lp_O_letterAt_21 (v2 : Int32) (k51 : jMem → Option (Int32 × jMem)) (k88 : Int32 → jMem → Option (Int32 × jMem)) : Nat → Int32 → Int32 → Int32 → Int32 → jMem → Option (Int32 × jMem)
  | 0, _, _, _, _, _ => none
  | n + 1, v3, v4, v5, v6, m =>
    if v2 < v6 then
      k88 v5 m
    else
      if (m 89 6) ≤ v6 then
        k88 v5 m
      else
        jbd (f_O_memberAt v3 v4 m) fun x3 m4 =>
        if x3 = (-1 : Int32) then
          k51 m4
        else
          jbd (f_O_waysAhead v3 x3 m4) fun x5 m6 =>
          jbd (f_C_bit x3 m6) fun x7 m8 =>
          jld 1 m8 92 x3 fun x9 =>
          lp_O_letterAt_21 v2 k51 k88 n (v3 ||| x7) (v4 - x5) x9 (v6 + (1 : Int32)) m8
def f_O_letterAt (v1 : Int32) (v2 : Int32) (m : jMem) : Option (Int32 × jMem) :=
  jbd (f_O_howMany m) fun x1 m2 =>
  if v1 < x1 then
    lp_O_letterAt_21 v2 (fun m10 =>
      some ((-1 : Int32), m10)) (fun w12 m11 =>
      some (w12, m11)) 5000 (0 : Int32) v1 (-1 : Int32) (0 : Int32) m2
  else
    some ((-1 : Int32), m2)
theorem jlp_O_letterAt_21 {G : jG} (hG : jFul G) (v2 : Int32) (k51 : jMem → Option (Int32 × jMem)) (k88 : Int32 → jMem → Option (Int32 × jMem))
    (hk51 : ∀ (m : jMem) (r : (Int32 × jMem)), k51 m = some r → J G Y_O_letterAt 51 [] [] m (jri r))
    (hk88 : ∀ (v5 : Int32) (m : jMem) (r : (Int32 × jMem)), k88 v5 m = some r → J G Y_O_letterAt 88 [(5, .int v5)] [] m (jri r)) : ∀ (n : Nat) (v3 : Int32) (v4 : Int32) (v5 : Int32) (v6 : Int32) (m : jMem) (r : (Int32 × jMem)), lp_O_letterAt_21 v2 k51 k88 n v3 v4 v5 v6 m = some r → J G Y_O_letterAt 21 [(0, jr G 89), (2, .int v2), (3, .int v3), (4, .int v4), (5, .int v5), (6, .int v6)] [] m (jri r) := by
  intro n
  induction n with
  | zero => intro v3 v4 v5 v6 m r h; unfold lp_O_letterAt_21 at h; cases h
  | succ n ih =>
    intro v3 v4 v5 v6 m r h
    unfold lp_O_letterAt_21 at h
    refine J.iload 5 d_O_letterAt_21 rfl ?_
    refine J.iload_n 1 d_O_letterAt_23 rfl rfl ?_
    refine J.icmp_gt 88 d_O_letterAt_24 rfl (fun c => ?_) (fun c => ?_)
    · rw [if_pos c] at h
      exact J.sub (ls' := [(5, .int v5)]) [4] rfl (hk88 v5 m _ h)
    · rw [if_neg c] at h
      refine J.iload 5 d_O_letterAt_27 rfl ?_
      refine J.aload_n 0 d_O_letterAt_29 rfl rfl ?_
      refine J.getI hG d_O_letterAt_30 fl_O_68 ck_89_6 ?_
      refine J.icmp_ge 88 d_O_letterAt_33 rfl (fun c => ?_) (fun c => ?_)
      · rw [if_pos c] at h
        exact J.sub (ls' := [(5, .int v5)]) [4] rfl (hk88 v5 m _ h)
      · rw [if_neg c] at h
        refine J.aload_n 0 d_O_letterAt_36 rfl rfl ?_
        refine J.nop (pc' := 37) rfl ?_
        refine J.iload_n 2 d_O_letterAt_37 rfl rfl ?_
        refine J.iload 3 d_O_letterAt_38 rfl ?_
        obtain ⟨x3, m4, zm4, h⟩ := jbd_some h
        refine J.cVi Y_O_memberAt (As := [.int v3, .int v4]) (rest := []) hG d_O_letterAt_40 mi_O_memberAt mv_O_memberAt lk_O_83 ⟨rfl, rfl, Nat.le_of_ble_eq_true rfl⟩ cq_89 cc_9 (c_O_memberAt hG zm4) rfl (Nat.le_trans jcN (Nat.le_of_ble_eq_true rfl)) ?_
        refine J.istore (lv := [(7, .int x3), (0, jr G 89), (2, .int v2), (3, .int v3), (4, .int v4), (5, .int v5), (6, .int v6)]) d_O_letterAt_43 (by decide) rfl ?_
        refine J.iload 0 d_O_letterAt_45 rfl ?_
        refine J.iconst (v := (-1 : Int32)) d_O_letterAt_47 ki_m1 ?_
        refine J.icmp_ne 53 d_O_letterAt_48 rfl (fun c => ?_) (fun c => ?_)
        · rw [if_neg c] at h
          refine J.iload 4 d_O_letterAt_53 rfl ?_
          refine J.aload_n 1 d_O_letterAt_55 rfl rfl ?_
          refine J.iload_n 3 d_O_letterAt_56 rfl rfl ?_
          refine J.iload 0 d_O_letterAt_57 rfl ?_
          obtain ⟨x5, m6, zm6, h⟩ := jbd_some h
          refine J.cVi Y_O_waysAhead (As := [.int v3, .int x3]) (rest := [.int v4]) hG d_O_letterAt_59 mi_O_waysAhead mv_O_waysAhead lk_O_87 ⟨rfl, rfl, Nat.le_of_ble_eq_true rfl⟩ cq_89 cc_9 (c_O_waysAhead hG zm6) rfl (Nat.le_trans (jcI jcN) (Nat.le_of_ble_eq_true rfl)) ?_
          refine J.isub d_O_letterAt_62 ?_
          refine J.istore (lv := [(4, .int (v4 - x5)), (7, .int x3), (0, jr G 89), (2, .int v2), (3, .int v3), (5, .int v5), (6, .int v6)]) d_O_letterAt_63 (by decide) rfl ?_
          refine J.iload_n 4 d_O_letterAt_65 rfl rfl ?_
          refine J.nop (pc' := 66) rfl ?_
          refine J.iload 1 d_O_letterAt_66 rfl ?_
          obtain ⟨x7, m8, zm8, h⟩ := jbd_some h
          refine J.cSi Y_C_bit (As := [.int x3]) (rest := [.int v3]) d_O_letterAt_68 mi_C_bit ms_C_bit lk_O_43 ⟨rfl, rfl, Nat.le_of_ble_eq_true rfl⟩ (c_C_bit hG zm8) rfl (Nat.le_trans (jcI jcN) (Nat.le_of_ble_eq_true rfl)) ?_
          refine J.ior d_O_letterAt_71 ?_
          refine J.istore_n (lv := [(3, .int (v3 ||| x7)), (4, .int (v4 - x5)), (7, .int x3), (0, jr G 89), (2, .int v2), (5, .int v5), (6, .int v6)]) d_O_letterAt_72 rfl (by decide) rfl ?_
          refine J.aload_n 3 d_O_letterAt_73 rfl rfl ?_
          refine J.getF (n := 92) hG d_O_letterAt_74 fl_O_18 ck_89_4 rfl ?_
          refine J.iload 2 d_O_letterAt_77 rfl ?_
          obtain ⟨x9, ex9, g, h⟩ := jld_some h
          refine J.il hG d_O_letterAt_79 g ex9 ?_
          refine J.nop (pc' := 80) rfl ?_
          refine J.istore (lv := [(5, .int x9), (3, .int (v3 ||| x7)), (4, .int (v4 - x5)), (7, .int x3), (0, jr G 89), (2, .int v2), (6, .int v6)]) d_O_letterAt_80 (by decide) rfl ?_
          refine J.iinc 6 (v := (1 : Int32)) (lv := [(6, .int (v6 + (1 : Int32))), (5, .int x9), (3, .int (v3 ||| x7)), (4, .int (v4 - x5)), (7, .int x3), (0, jr G 89), (2, .int v2)]) d_O_letterAt_82 rfl ki_1 (by decide) rfl ?_
          refine J.goto 21 d_O_letterAt_85 rfl ?_
          exact J.sub (ls' := [(0, jr G 89), (2, .int v2), (3, .int (v3 ||| x7)), (4, .int (v4 - x5)), (5, .int x9), (6, .int (v6 + (1 : Int32)))]) [5, 6, 2, 3, 1, 0] rfl (ih (v3 ||| x7) (v4 - x5) x9 (v6 + (1 : Int32)) m8 _ h)
        · rw [if_pos c] at h
          exact J.sub (ls' := []) [] rfl (hk51  m4 _ h)
theorem c_O_letterAt {G : jG} (hG : jFul G) {v1 : Int32} {v2 : Int32} {m : jMem} {r : (Int32 × jMem)} (h : f_O_letterAt v1 v2 m = some r) : jCt G Y_O_letterAt [jr G 89, .int v1, .int v2] m (jri r) := by
  refine jCt.ov (ls := [(0, jr G 89), (1, .int v1), (2, .int v2)]) mi_O_letterAt (jAvR (jAvI (jAvI jAvN))) (Nat.le_of_ble_eq_true rfl) ?_ ⟨rfl, rfl⟩
  unfold f_O_letterAt at h
  refine J.iload_n 1 d_O_letterAt_0 rfl rfl ?_
  refine J.aload_n 0 d_O_letterAt_1 rfl rfl ?_
  obtain ⟨x1, m2, zm2, h⟩ := jbd_some h
  refine J.cVi Y_O_howMany (As := []) (rest := [.int v1]) hG d_O_letterAt_2 mi_O_howMany mv_O_howMany lk_O_79 ⟨rfl, rfl, Nat.le_of_ble_eq_true rfl⟩ cq_89 cc_9 (c_O_howMany hG zm2) rfl (Nat.le_trans (jcI jcN) (Nat.le_of_ble_eq_true rfl)) ?_
  refine J.icmp_lt 10 d_O_letterAt_5 rfl (fun c => ?_) (fun c => ?_)
  · rw [if_pos c] at h
    refine J.iconst (v := (0 : Int32)) d_O_letterAt_10 ki_0 ?_
    refine J.istore_n (lv := [(3, .int (0 : Int32)), (0, jr G 89), (1, .int v1), (2, .int v2)]) d_O_letterAt_11 rfl (by decide) rfl ?_
    refine J.iload_n 2 d_O_letterAt_12 rfl rfl ?_
    refine J.istore (lv := [(4, .int v1), (3, .int (0 : Int32)), (0, jr G 89), (1, .int v1), (2, .int v2)]) d_O_letterAt_13 (by decide) rfl ?_
    refine J.iconst (v := (-1 : Int32)) d_O_letterAt_15 ki_m1 ?_
    refine J.istore (lv := [(5, .int (-1 : Int32)), (4, .int v1), (3, .int (0 : Int32)), (0, jr G 89), (1, .int v1), (2, .int v2)]) d_O_letterAt_16 (by decide) rfl ?_
    refine J.iconst (v := (0 : Int32)) d_O_letterAt_18 ki_0 ?_
    refine J.istore (lv := [(6, .int (0 : Int32)), (5, .int (-1 : Int32)), (4, .int v1), (3, .int (0 : Int32)), (0, jr G 89), (1, .int v1), (2, .int v2)]) d_O_letterAt_19 (by decide) rfl ?_
    refine J.sub (ls' := [(0, jr G 89), (2, .int v2), (3, .int (0 : Int32)), (4, .int v1), (5, .int (-1 : Int32)), (6, .int (0 : Int32))]) [4, 6, 3, 2, 1, 0] rfl ?_
    refine jlp_O_letterAt_21 hG v2 _ _ ?_ ?_ _ (0 : Int32) v1 (-1 : Int32) (0 : Int32) m2 _ h
    · intro m10 r h
      refine J.iconst (v := (-1 : Int32)) d_O_letterAt_51 ki_m1 ?_
      cases h
      exact J.iret d_O_letterAt_52 rfl (vp_nar_int _) rfl
    · intro w12 m11 r h
      refine J.iload 0 d_O_letterAt_88 rfl ?_
      cases h
      exact J.iret d_O_letterAt_90 rfl (vp_nar_int _) rfl
  · rw [if_neg c] at h
    refine J.iconst (v := (-1 : Int32)) d_O_letterAt_8 ki_m1 ?_
    cases h
    exact J.iret d_O_letterAt_9 rfl (vp_nar_int _) rfl

def lp_O_goOnFrom_59 (v1 : Int32) (v2 : Int32) (v3 : Int32) (v4 : Int32) (k97 : jMem → Option (Unit × jMem)) : Nat → Int32 → jMem → Option (Unit × jMem)
  | 0, _, _ => none
  | n + 1, v5, m =>
    if (m 89 6) ≤ v5 then
      k97 m
    else
      jbd (f_C_isIn v3 v5 m) fun x10 m11 =>
      if x10 = 0 then
        jl3 96 v2 fun q12 =>
        jld 1 m11 q12 v5 fun x13 =>
        jst 1 m11 q12 v5 (x13 + v4) fun m14 =>
        lp_O_goOnFrom_59 v1 v2 v3 v4 k97 n (v5 + (1 : Int32)) m14
      else
        lp_O_goOnFrom_59 v1 v2 v3 v4 k97 n (v5 + (1 : Int32)) m11
def lp_O_goOnFrom_2 (v1 : Int32) (k103 : jMem → Option (Unit × jMem)) : Nat → Int32 → jMem → Option (Unit × jMem)
  | 0, _, _ => none
  | n + 1, v2, m =>
    if (m 89 6) ≤ v2 then
      k103 m
    else
      jbd (f_O_mayFollow v2 v1 m) fun x1 m2 =>
      if x1 = 0 then
        lp_O_goOnFrom_2 v1 k103 n (v2 + (1 : Int32)) m2
      else
        jbd (f_C_bit v2 m2) fun x3 m4 =>
        jld 1 m4 95 (v1 ||| x3) fun x5 =>
        jld 1 m4 95 v1 fun x6 =>
        jst 1 m4 95 (v1 ||| x3) (x5 + x6) fun m7 =>
        jld 1 m7 95 v1 fun x8 =>
        jld 1 m7 94 (v1 ||| x3) fun x9 =>
        lp_O_goOnFrom_59 v1 v2 (v1 ||| x3) (x8 * x9) (fun m15 =>
          lp_O_goOnFrom_2 v1 k103 n (v2 + (1 : Int32)) m15) 5000 (0 : Int32) m7
def f_O_goOnFrom (v1 : Int32) (m : jMem) : Option (Unit × jMem) :=
  lp_O_goOnFrom_2 v1 (fun m16 =>
    some ((), m16)) 5000 (0 : Int32) m
theorem jlp_O_goOnFrom_59 {G : jG} (hG : jFul G) (v1 : Int32) (v2 : Int32) (v3 : Int32) (v4 : Int32) (k97 : jMem → Option (Unit × jMem))
    (hk97 : ∀ (m : jMem) (r : (Unit × jMem)), k97 m = some r → J G Y_O_goOnFrom 97 [(0, jr G 89), (1, .int v1), (2, .int v2)] [] m (jrv r)) : ∀ (n : Nat) (v5 : Int32) (m : jMem) (r : (Unit × jMem)), lp_O_goOnFrom_59 v1 v2 v3 v4 k97 n v5 m = some r → J G Y_O_goOnFrom 59 [(0, jr G 89), (1, .int v1), (2, .int v2), (3, .int v3), (4, .int v4), (5, .int v5)] [] m (jrv r) := by
  intro n
  induction n with
  | zero => intro v5 m r h; unfold lp_O_goOnFrom_59 at h; cases h
  | succ n ih =>
    intro v5 m r h
    unfold lp_O_goOnFrom_59 at h
    refine J.iload 5 d_O_goOnFrom_59 rfl ?_
    refine J.aload_n 0 d_O_goOnFrom_61 rfl rfl ?_
    refine J.getI hG d_O_goOnFrom_62 fl_O_68 ck_89_6 ?_
    refine J.icmp_ge 97 d_O_goOnFrom_65 rfl (fun c => ?_) (fun c => ?_)
    · rw [if_pos c] at h
      exact J.sub (ls' := [(0, jr G 89), (1, .int v1), (2, .int v2)]) [0, 1, 2] rfl (hk97  m _ h)
    · rw [if_neg c] at h
      refine J.iload_n 3 d_O_goOnFrom_68 rfl rfl ?_
      refine J.iload 5 d_O_goOnFrom_69 rfl ?_
      obtain ⟨x10, m11, zm11, h⟩ := jbd_some h
      refine J.cSi Y_C_isIn (As := [.int v3, .int v5]) (rest := []) d_O_goOnFrom_71 mi_C_isIn ms_C_isIn lk_O_55 ⟨rfl, rfl, Nat.le_of_ble_eq_true rfl⟩ (c_C_isIn hG zm11) rfl (Nat.le_trans jcN (Nat.le_of_ble_eq_true rfl)) ?_
      refine J.if_ne 91 d_O_goOnFrom_74 rfl (fun c => ?_) (fun c => ?_)
      · rw [if_neg c] at h
        refine J.iinc 5 (v := (1 : Int32)) (lv := [(5, .int (v5 + (1 : Int32))), (0, jr G 89), (1, .int v1), (2, .int v2), (3, .int v3), (4, .int v4)]) d_O_goOnFrom_91 rfl ki_1 (by decide) rfl ?_
        refine J.goto 59 d_O_goOnFrom_94 rfl ?_
        exact J.sub (ls' := [(0, jr G 89), (1, .int v1), (2, .int v2), (3, .int v3), (4, .int v4), (5, .int (v5 + (1 : Int32)))]) [1, 2, 3, 4, 5, 0] rfl (ih (v5 + (1 : Int32)) m11 _ h)
      · rw [if_pos c] at h
        refine J.nop (pc' := 77) rfl ?_
        refine J.aload_n 0 d_O_goOnFrom_77 rfl rfl ?_
        refine J.getF (n := 96) hG d_O_goOnFrom_78 fl_O_32 ck_89_9 rfl ?_
        refine J.iload_n 2 d_O_goOnFrom_81 rfl rfl ?_
        obtain ⟨q12, eq12, gq12, h⟩ := jl3_some h
        refine J.a3 hG d_O_goOnFrom_82 gq12 eq12 ?_
        refine J.iload 5 d_O_goOnFrom_83 rfl ?_
        refine J.dup2 d_O_goOnFrom_85 rfl (jr_cat _ _) ?_
        obtain ⟨x13, ex13, g, h⟩ := jld_some h
        refine J.il hG d_O_goOnFrom_86 g ex13 ?_
        refine J.iload 4 d_O_goOnFrom_87 rfl ?_
        refine J.nop (pc' := 89) rfl ?_
        refine J.iadd d_O_goOnFrom_89 ?_
        obtain ⟨m14, hm14, g, h⟩ := jst_some h
        refine J.is hG d_O_goOnFrom_90 g hm14 ?_
        refine J.iinc 5 (v := (1 : Int32)) (lv := [(5, .int (v5 + (1 : Int32))), (0, jr G 89), (1, .int v1), (2, .int v2), (3, .int v3), (4, .int v4)]) d_O_goOnFrom_91 rfl ki_1 (by decide) rfl ?_
        refine J.goto 59 d_O_goOnFrom_94 rfl ?_
        exact J.sub (ls' := [(0, jr G 89), (1, .int v1), (2, .int v2), (3, .int v3), (4, .int v4), (5, .int (v5 + (1 : Int32)))]) [1, 2, 3, 4, 5, 0] rfl (ih (v5 + (1 : Int32)) m14 _ h)
theorem jlp_O_goOnFrom_2 {G : jG} (hG : jFul G) (v1 : Int32) (k103 : jMem → Option (Unit × jMem))
    (hk103 : ∀ (m : jMem) (r : (Unit × jMem)), k103 m = some r → J G Y_O_goOnFrom 103 [] [] m (jrv r)) : ∀ (n : Nat) (v2 : Int32) (m : jMem) (r : (Unit × jMem)), lp_O_goOnFrom_2 v1 k103 n v2 m = some r → J G Y_O_goOnFrom 2 [(0, jr G 89), (1, .int v1), (2, .int v2)] [] m (jrv r) := by
  intro n
  induction n with
  | zero => intro v2 m r h; unfold lp_O_goOnFrom_2 at h; cases h
  | succ n ih =>
    intro v2 m r h
    unfold lp_O_goOnFrom_2 at h
    refine J.iload_n 2 d_O_goOnFrom_2 rfl rfl ?_
    refine J.aload_n 0 d_O_goOnFrom_3 rfl rfl ?_
    refine J.getI hG d_O_goOnFrom_4 fl_O_68 ck_89_6 ?_
    refine J.icmp_ge 103 d_O_goOnFrom_7 rfl (fun c => ?_) (fun c => ?_)
    · rw [if_pos c] at h
      exact J.sub (ls' := []) [] rfl (hk103  m _ h)
    · rw [if_neg c] at h
      refine J.aload_n 0 d_O_goOnFrom_10 rfl rfl ?_
      refine J.iload_n 2 d_O_goOnFrom_11 rfl rfl ?_
      refine J.iload_n 1 d_O_goOnFrom_12 rfl rfl ?_
      obtain ⟨x1, m2, zm2, h⟩ := jbd_some h
      refine J.cVi Y_O_mayFollow (As := [.int v2, .int v1]) (rest := []) hG d_O_goOnFrom_13 mi_O_mayFollow mv_O_mayFollow lk_O_76 ⟨rfl, rfl, Nat.le_of_ble_eq_true rfl⟩ cq_89 cc_9 (c_O_mayFollow hG zm2) rfl (Nat.le_trans jcN (Nat.le_of_ble_eq_true rfl)) ?_
      refine J.nop (pc' := 16) rfl ?_
      refine J.if_eq 97 d_O_goOnFrom_16 rfl (fun c => ?_) (fun c => ?_)
      · rw [if_pos c] at h
        refine J.iinc 2 (v := (1 : Int32)) (lv := [(2, .int (v2 + (1 : Int32))), (0, jr G 89), (1, .int v1)]) d_O_goOnFrom_97 rfl ki_1 (by decide) rfl ?_
        refine J.goto 2 d_O_goOnFrom_100 rfl ?_
        exact J.sub (ls' := [(0, jr G 89), (1, .int v1), (2, .int (v2 + (1 : Int32)))]) [1, 2, 0] rfl (ih (v2 + (1 : Int32)) m2 _ h)
      · rw [if_neg c] at h
        refine J.iload_n 1 d_O_goOnFrom_19 rfl rfl ?_
        refine J.iload_n 2 d_O_goOnFrom_20 rfl rfl ?_
        obtain ⟨x3, m4, zm4, h⟩ := jbd_some h
        refine J.cSi Y_C_bit (As := [.int v2]) (rest := [.int v1]) d_O_goOnFrom_21 mi_C_bit ms_C_bit lk_O_43 ⟨rfl, rfl, Nat.le_of_ble_eq_true rfl⟩ (c_C_bit hG zm4) rfl (Nat.le_trans (jcI jcN) (Nat.le_of_ble_eq_true rfl)) ?_
        refine J.ior d_O_goOnFrom_24 ?_
        refine J.istore_n (lv := [(3, .int (v1 ||| x3)), (0, jr G 89), (1, .int v1), (2, .int v2)]) d_O_goOnFrom_25 rfl (by decide) rfl ?_
        refine J.aload_n 1 d_O_goOnFrom_26 rfl rfl ?_
        refine J.getF (n := 95) hG d_O_goOnFrom_27 fl_O_27 ck_89_8 rfl ?_
        refine J.nop (pc' := 30) rfl ?_
        refine J.iload_n 0 d_O_goOnFrom_30 rfl rfl ?_
        refine J.dup2 d_O_goOnFrom_31 rfl (jr_cat _ _) ?_
        obtain ⟨x5, ex5, g, h⟩ := jld_some h
        refine J.il hG d_O_goOnFrom_32 g ex5 ?_
        refine J.aload_n 1 d_O_goOnFrom_33 rfl rfl ?_
        refine J.getF (n := 95) hG d_O_goOnFrom_34 fl_O_27 ck_89_8 rfl ?_
        refine J.iload_n 2 d_O_goOnFrom_37 rfl rfl ?_
        obtain ⟨x6, ex6, g, h⟩ := jld_some h
        refine J.il hG d_O_goOnFrom_38 g ex6 ?_
        refine J.iadd d_O_goOnFrom_39 ?_
        refine J.nop (pc' := 40) rfl ?_
        obtain ⟨m7, hm7, g, h⟩ := jst_some h
        refine J.is hG d_O_goOnFrom_40 g hm7 ?_
        refine J.aload_n 1 d_O_goOnFrom_41 rfl rfl ?_
        refine J.getF (n := 95) hG d_O_goOnFrom_42 fl_O_27 ck_89_8 rfl ?_
        refine J.iload_n 2 d_O_goOnFrom_45 rfl rfl ?_
        obtain ⟨x8, ex8, g, h⟩ := jld_some h
        refine J.il hG d_O_goOnFrom_46 g ex8 ?_
        refine J.aload_n 1 d_O_goOnFrom_47 rfl rfl ?_
        refine J.getF (n := 94) hG d_O_goOnFrom_48 fl_O_24 ck_89_7 rfl ?_
        refine J.iload_n 0 d_O_goOnFrom_51 rfl rfl ?_
        refine J.nop (pc' := 52) rfl ?_
        obtain ⟨x9, ex9, g, h⟩ := jld_some h
        refine J.il hG d_O_goOnFrom_52 g ex9 ?_
        refine J.imul d_O_goOnFrom_53 ?_
        refine J.istore (lv := [(4, .int (x8 * x9)), (3, .int (v1 ||| x3)), (0, jr G 89), (1, .int v1), (2, .int v2)]) d_O_goOnFrom_54 (by decide) rfl ?_
        refine J.iconst (v := (0 : Int32)) d_O_goOnFrom_56 ki_0 ?_
        refine J.istore (lv := [(5, .int (0 : Int32)), (4, .int (x8 * x9)), (3, .int (v1 ||| x3)), (0, jr G 89), (1, .int v1), (2, .int v2)]) d_O_goOnFrom_57 (by decide) rfl ?_
        refine J.sub (ls' := [(0, jr G 89), (1, .int v1), (2, .int v2), (3, .int (v1 ||| x3)), (4, .int (x8 * x9)), (5, .int (0 : Int32))]) [3, 4, 5, 2, 1, 0] rfl ?_
        refine jlp_O_goOnFrom_59 hG v1 v2 (v1 ||| x3) (x8 * x9) _ ?_ _ (0 : Int32) m7 _ h
        intro m15 r h
        refine J.iinc 2 (v := (1 : Int32)) (lv := [(2, .int (v2 + (1 : Int32))), (0, jr G 89), (1, .int v1)]) d_O_goOnFrom_97 rfl ki_1 (by decide) rfl ?_
        refine J.goto 2 d_O_goOnFrom_100 rfl ?_
        exact J.sub (ls' := [(0, jr G 89), (1, .int v1), (2, .int (v2 + (1 : Int32)))]) [1, 2, 0] rfl (ih (v2 + (1 : Int32)) m15 _ h)
theorem c_O_goOnFrom {G : jG} (hG : jFul G) {v1 : Int32} {m : jMem} {r : (Unit × jMem)} (h : f_O_goOnFrom v1 m = some r) : jCt G Y_O_goOnFrom [jr G 89, .int v1] m (jrv r) := by
  refine jCt.ov (ls := [(0, jr G 89), (1, .int v1)]) mi_O_goOnFrom (jAvR (jAvI jAvN)) (Nat.le_of_ble_eq_true rfl) ?_ ⟨rfl, rfl⟩
  unfold f_O_goOnFrom at h
  refine J.iconst (v := (0 : Int32)) d_O_goOnFrom_0 ki_0 ?_
  refine J.istore_n (lv := [(2, .int (0 : Int32)), (0, jr G 89), (1, .int v1)]) d_O_goOnFrom_1 rfl (by decide) rfl ?_
  refine J.sub (ls' := [(0, jr G 89), (1, .int v1), (2, .int (0 : Int32))]) [1, 2, 0] rfl ?_
  refine jlp_O_goOnFrom_2 hG v1 _ ?_ _ (0 : Int32) m _ h
  intro m16 r h
  cases h
  exact J.vret d_O_goOnFrom_103 rfl rfl

def lp_O_countAhead_12 (v1 : Int32) (k35 : jMem → Option (Unit × jMem)) : Nat → Int32 → jMem → Option (Unit × jMem)
  | 0, _, _ => none
  | n + 1, v2, m =>
    if (m 89 6) ≤ v2 then
      k35 m
    else
      jl3 96 v1 fun q1 =>
      jst 1 m q1 v2 (0 : Int32) fun m2 =>
      lp_O_countAhead_12 v1 k35 n (v2 + (1 : Int32)) m2
def lp_O_countAhead_2 (k41 : jMem → Option (Unit × jMem)) : Nat → Int32 → jMem → Option (Unit × jMem)
  | 0, _, _ => none
  | n + 1, v1, m =>
    if (m 89 6) ≤ v1 then
      k41 m
    else
      lp_O_countAhead_12 v1 (fun m3 =>
        lp_O_countAhead_2 k41 n (v1 + (1 : Int32)) m3) 5000 (0 : Int32) m
def lp_O_countAhead_53 (v1 : Int32) (k79 : jMem → Option (Unit × jMem)) : Nat → Int32 → jMem → Option (Unit × jMem)
  | 0, _, _ => none
  | n + 1, v2, m =>
    if v1 < v2 then
      k79 m
    else
      if v2 = 0 then
        jst 1 m 95 v2 (1 : Int32) fun m8 =>
        lp_O_countAhead_53 v1 k79 n (v2 + (1 : Int32)) m8
      else
        jst 1 m 95 v2 (0 : Int32) fun m7 =>
        lp_O_countAhead_53 v1 k79 n (v2 + (1 : Int32)) m7
def lp_O_countAhead_81 (v1 : Int32) (k106 : jMem → Option (Unit × jMem)) : Nat → Int32 → jMem → Option (Unit × jMem)
  | 0, _, _ => none
  | n + 1, v2, m =>
    if v1 ≤ v2 then
      k106 m
    else
      jld 1 m 95 v2 fun x10 =>
      if x10 = 0 then
        lp_O_countAhead_81 v1 k106 n (v2 + (1 : Int32)) m
      else
        jbd (f_O_goOnFrom v2 m) fun u11 m12 =>
        lp_O_countAhead_81 v1 k106 n (v2 + (1 : Int32)) m12
def f_O_countAhead (m : jMem) : Option (Unit × jMem) :=
  lp_O_countAhead_2 (fun m4 =>
    jbd (f_C_bit (m4 89 6) m4) fun x5 m6 =>
    lp_O_countAhead_53 (x5 - (1 : Int32)) (fun m9 =>
      lp_O_countAhead_81 (x5 - (1 : Int32)) (fun m13 =>
        some ((), m13)) 5000 (0 : Int32) m9) 5000 (0 : Int32) m6) 5000 (0 : Int32) m
theorem jlp_O_countAhead_12 {G : jG} (hG : jFul G) (v1 : Int32) (k35 : jMem → Option (Unit × jMem))
    (hk35 : ∀ (m : jMem) (r : (Unit × jMem)), k35 m = some r → J G Y_O_countAhead 35 [(0, jr G 89), (1, .int v1)] [] m (jrv r)) : ∀ (n : Nat) (v2 : Int32) (m : jMem) (r : (Unit × jMem)), lp_O_countAhead_12 v1 k35 n v2 m = some r → J G Y_O_countAhead 12 [(0, jr G 89), (1, .int v1), (2, .int v2)] [] m (jrv r) := by
  intro n
  induction n with
  | zero => intro v2 m r h; unfold lp_O_countAhead_12 at h; cases h
  | succ n ih =>
    intro v2 m r h
    unfold lp_O_countAhead_12 at h
    refine J.iload_n 2 d_O_countAhead_12 rfl rfl ?_
    refine J.aload_n 0 d_O_countAhead_13 rfl rfl ?_
    refine J.getI hG d_O_countAhead_14 fl_O_68 ck_89_6 ?_
    refine J.icmp_ge 35 d_O_countAhead_17 rfl (fun c => ?_) (fun c => ?_)
    · rw [if_pos c] at h
      exact J.sub (ls' := [(0, jr G 89), (1, .int v1)]) [0, 1] rfl (hk35  m _ h)
    · rw [if_neg c] at h
      refine J.aload_n 0 d_O_countAhead_20 rfl rfl ?_
      refine J.getF (n := 96) hG d_O_countAhead_21 fl_O_32 ck_89_9 rfl ?_
      refine J.iload_n 1 d_O_countAhead_24 rfl rfl ?_
      obtain ⟨q1, eq1, gq1, h⟩ := jl3_some h
      refine J.a3 hG d_O_countAhead_25 gq1 eq1 ?_
      refine J.nop (pc' := 26) rfl ?_
      refine J.iload_n 2 d_O_countAhead_26 rfl rfl ?_
      refine J.iconst (v := (0 : Int32)) d_O_countAhead_27 ki_0 ?_
      obtain ⟨m2, hm2, g, h⟩ := jst_some h
      refine J.is hG d_O_countAhead_28 g hm2 ?_
      refine J.iinc 2 (v := (1 : Int32)) (lv := [(2, .int (v2 + (1 : Int32))), (0, jr G 89), (1, .int v1)]) d_O_countAhead_29 rfl ki_1 (by decide) rfl ?_
      refine J.goto 12 d_O_countAhead_32 rfl ?_
      exact J.sub (ls' := [(0, jr G 89), (1, .int v1), (2, .int (v2 + (1 : Int32)))]) [1, 2, 0] rfl (ih (v2 + (1 : Int32)) m2 _ h)
theorem jlp_O_countAhead_2 {G : jG} (hG : jFul G) (k41 : jMem → Option (Unit × jMem))
    (hk41 : ∀ (m : jMem) (r : (Unit × jMem)), k41 m = some r → J G Y_O_countAhead 41 [(0, jr G 89)] [] m (jrv r)) : ∀ (n : Nat) (v1 : Int32) (m : jMem) (r : (Unit × jMem)), lp_O_countAhead_2 k41 n v1 m = some r → J G Y_O_countAhead 2 [(0, jr G 89), (1, .int v1)] [] m (jrv r) := by
  intro n
  induction n with
  | zero => intro v1 m r h; unfold lp_O_countAhead_2 at h; cases h
  | succ n ih =>
    intro v1 m r h
    unfold lp_O_countAhead_2 at h
    refine J.iload_n 1 d_O_countAhead_2 rfl rfl ?_
    refine J.aload_n 0 d_O_countAhead_3 rfl rfl ?_
    refine J.getI hG d_O_countAhead_4 fl_O_68 ck_89_6 ?_
    refine J.icmp_ge 41 d_O_countAhead_7 rfl (fun c => ?_) (fun c => ?_)
    · rw [if_pos c] at h
      exact J.sub (ls' := [(0, jr G 89)]) [0] rfl (hk41  m _ h)
    · rw [if_neg c] at h
      refine J.iconst (v := (0 : Int32)) d_O_countAhead_10 ki_0 ?_
      refine J.istore_n (lv := [(2, .int (0 : Int32)), (0, jr G 89), (1, .int v1)]) d_O_countAhead_11 rfl (by decide) rfl ?_
      refine J.sub (ls' := [(0, jr G 89), (1, .int v1), (2, .int (0 : Int32))]) [1, 2, 0] rfl ?_
      refine jlp_O_countAhead_12 hG v1 _ ?_ _ (0 : Int32) m _ h
      intro m3 r h
      refine J.iinc 1 (v := (1 : Int32)) (lv := [(1, .int (v1 + (1 : Int32))), (0, jr G 89)]) d_O_countAhead_35 rfl ki_1 (by decide) rfl ?_
      refine J.goto 2 d_O_countAhead_38 rfl ?_
      exact J.sub (ls' := [(0, jr G 89), (1, .int (v1 + (1 : Int32)))]) [1, 0] rfl (ih (v1 + (1 : Int32)) m3 _ h)
theorem jlp_O_countAhead_53 {G : jG} (hG : jFul G) (v1 : Int32) (k79 : jMem → Option (Unit × jMem))
    (hk79 : ∀ (m : jMem) (r : (Unit × jMem)), k79 m = some r → J G Y_O_countAhead 79 [(0, jr G 89), (1, .int v1)] [] m (jrv r)) : ∀ (n : Nat) (v2 : Int32) (m : jMem) (r : (Unit × jMem)), lp_O_countAhead_53 v1 k79 n v2 m = some r → J G Y_O_countAhead 53 [(0, jr G 89), (1, .int v1), (2, .int v2)] [] m (jrv r) := by
  intro n
  induction n with
  | zero => intro v2 m r h; unfold lp_O_countAhead_53 at h; cases h
  | succ n ih =>
    intro v2 m r h
    unfold lp_O_countAhead_53 at h
    refine J.iload_n 2 d_O_countAhead_53 rfl rfl ?_
    refine J.iload_n 1 d_O_countAhead_54 rfl rfl ?_
    refine J.icmp_gt 79 d_O_countAhead_55 rfl (fun c => ?_) (fun c => ?_)
    · rw [if_pos c] at h
      exact J.sub (ls' := [(0, jr G 89), (1, .int v1)]) [0, 1] rfl (hk79  m _ h)
    · rw [if_neg c] at h
      refine J.aload_n 0 d_O_countAhead_58 rfl rfl ?_
      refine J.getF (n := 95) hG d_O_countAhead_59 fl_O_27 ck_89_8 rfl ?_
      refine J.iload_n 2 d_O_countAhead_62 rfl rfl ?_
      refine J.iload_n 2 d_O_countAhead_63 rfl rfl ?_
      refine J.if_ne 71 d_O_countAhead_64 rfl (fun c => ?_) (fun c => ?_)
      · rw [if_neg c] at h
        refine J.iconst (v := (0 : Int32)) d_O_countAhead_71 ki_0 ?_
        obtain ⟨m7, hm7, g, h⟩ := jst_some h
        refine J.is hG d_O_countAhead_72 g hm7 ?_
        refine J.iinc 2 (v := (1 : Int32)) (lv := [(2, .int (v2 + (1 : Int32))), (0, jr G 89), (1, .int v1)]) d_O_countAhead_73 rfl ki_1 (by decide) rfl ?_
        refine J.goto 53 d_O_countAhead_76 rfl ?_
        exact J.sub (ls' := [(0, jr G 89), (1, .int v1), (2, .int (v2 + (1 : Int32)))]) [1, 2, 0] rfl (ih (v2 + (1 : Int32)) m7 _ h)
      · rw [if_pos c] at h
        refine J.nop (pc' := 67) rfl ?_
        refine J.iconst (v := (1 : Int32)) d_O_countAhead_67 ki_1 ?_
        refine J.goto 72 d_O_countAhead_68 rfl ?_
        obtain ⟨m8, hm8, g, h⟩ := jst_some h
        refine J.is hG d_O_countAhead_72 g hm8 ?_
        refine J.iinc 2 (v := (1 : Int32)) (lv := [(2, .int (v2 + (1 : Int32))), (0, jr G 89), (1, .int v1)]) d_O_countAhead_73 rfl ki_1 (by decide) rfl ?_
        refine J.goto 53 d_O_countAhead_76 rfl ?_
        exact J.sub (ls' := [(0, jr G 89), (1, .int v1), (2, .int (v2 + (1 : Int32)))]) [1, 2, 0] rfl (ih (v2 + (1 : Int32)) m8 _ h)
theorem jlp_O_countAhead_81 {G : jG} (hG : jFul G) (v1 : Int32) (k106 : jMem → Option (Unit × jMem))
    (hk106 : ∀ (m : jMem) (r : (Unit × jMem)), k106 m = some r → J G Y_O_countAhead 106 [] [] m (jrv r)) : ∀ (n : Nat) (v2 : Int32) (m : jMem) (r : (Unit × jMem)), lp_O_countAhead_81 v1 k106 n v2 m = some r → J G Y_O_countAhead 81 [(0, jr G 89), (1, .int v1), (2, .int v2)] [] m (jrv r) := by
  intro n
  induction n with
  | zero => intro v2 m r h; unfold lp_O_countAhead_81 at h; cases h
  | succ n ih =>
    intro v2 m r h
    unfold lp_O_countAhead_81 at h
    refine J.iload_n 2 d_O_countAhead_81 rfl rfl ?_
    refine J.iload_n 1 d_O_countAhead_82 rfl rfl ?_
    refine J.icmp_ge 106 d_O_countAhead_83 rfl (fun c => ?_) (fun c => ?_)
    · rw [if_pos c] at h
      exact J.sub (ls' := []) [] rfl (hk106  m _ h)
    · rw [if_neg c] at h
      refine J.aload_n 0 d_O_countAhead_86 rfl rfl ?_
      refine J.getF (n := 95) hG d_O_countAhead_87 fl_O_27 ck_89_8 rfl ?_
      refine J.iload_n 2 d_O_countAhead_90 rfl rfl ?_
      obtain ⟨x10, ex10, g, h⟩ := jld_some h
      refine J.il hG d_O_countAhead_91 g ex10 ?_
      refine J.if_eq 100 d_O_countAhead_92 rfl (fun c => ?_) (fun c => ?_)
      · rw [if_pos c] at h
        refine J.iinc 2 (v := (1 : Int32)) (lv := [(2, .int (v2 + (1 : Int32))), (0, jr G 89), (1, .int v1)]) d_O_countAhead_100 rfl ki_1 (by decide) rfl ?_
        refine J.goto 81 d_O_countAhead_103 rfl ?_
        exact J.sub (ls' := [(0, jr G 89), (1, .int v1), (2, .int (v2 + (1 : Int32)))]) [1, 2, 0] rfl (ih (v2 + (1 : Int32)) m _ h)
      · rw [if_neg c] at h
        refine J.nop (pc' := 95) rfl ?_
        refine J.aload_n 0 d_O_countAhead_95 rfl rfl ?_
        refine J.iload_n 2 d_O_countAhead_96 rfl rfl ?_
        obtain ⟨u11, m12, zm12, h⟩ := jbd_some h
        refine J.cVv Y_O_goOnFrom (As := [.int v2]) (rest := []) hG d_O_countAhead_97 mi_O_goOnFrom mv_O_goOnFrom lk_O_98 ⟨rfl, rfl, Nat.le_of_ble_eq_true rfl⟩ cq_89 cc_9 (c_O_goOnFrom hG zm12) rfl (Nat.le_trans jcN (Nat.le_of_ble_eq_true rfl)) ?_
        refine J.iinc 2 (v := (1 : Int32)) (lv := [(2, .int (v2 + (1 : Int32))), (0, jr G 89), (1, .int v1)]) d_O_countAhead_100 rfl ki_1 (by decide) rfl ?_
        refine J.goto 81 d_O_countAhead_103 rfl ?_
        exact J.sub (ls' := [(0, jr G 89), (1, .int v1), (2, .int (v2 + (1 : Int32)))]) [1, 2, 0] rfl (ih (v2 + (1 : Int32)) m12 _ h)
theorem c_O_countAhead {G : jG} (hG : jFul G) {m : jMem} {r : (Unit × jMem)} (h : f_O_countAhead m = some r) : jCt G Y_O_countAhead [jr G 89] m (jrv r) := by
  refine jCt.ov (ls := [(0, jr G 89)]) mi_O_countAhead (jAvR jAvN) (Nat.le_of_ble_eq_true rfl) ?_ ⟨rfl, rfl⟩
  unfold f_O_countAhead at h
  refine J.iconst (v := (0 : Int32)) d_O_countAhead_0 ki_0 ?_
  refine J.istore_n (lv := [(1, .int (0 : Int32)), (0, jr G 89)]) d_O_countAhead_1 rfl (by decide) rfl ?_
  refine J.sub (ls' := [(0, jr G 89), (1, .int (0 : Int32))]) [1, 0] rfl ?_
  refine jlp_O_countAhead_2 hG _ ?_ _ (0 : Int32) m _ h
  intro m4 r h
  refine J.aload_n 0 d_O_countAhead_41 rfl rfl ?_
  refine J.getI hG d_O_countAhead_42 fl_O_68 ck_89_6 ?_
  obtain ⟨x5, m6, zm6, h⟩ := jbd_some h
  refine J.cSi Y_C_bit (As := [.int (m4 89 6)]) (rest := []) d_O_countAhead_45 mi_C_bit ms_C_bit lk_O_43 ⟨rfl, rfl, Nat.le_of_ble_eq_true rfl⟩ (c_C_bit hG zm6) rfl (Nat.le_trans jcN (Nat.le_of_ble_eq_true rfl)) ?_
  refine J.iconst (v := (1 : Int32)) d_O_countAhead_48 ki_1 ?_
  refine J.isub d_O_countAhead_49 ?_
  refine J.istore_n (lv := [(1, .int (x5 - (1 : Int32))), (0, jr G 89)]) d_O_countAhead_50 rfl (by decide) rfl ?_
  refine J.iconst (v := (0 : Int32)) d_O_countAhead_51 ki_0 ?_
  refine J.istore_n (lv := [(2, .int (0 : Int32)), (1, .int (x5 - (1 : Int32))), (0, jr G 89)]) d_O_countAhead_52 rfl (by decide) rfl ?_
  refine J.sub (ls' := [(0, jr G 89), (1, .int (x5 - (1 : Int32))), (2, .int (0 : Int32))]) [2, 1, 0] rfl ?_
  refine jlp_O_countAhead_53 hG (x5 - (1 : Int32)) _ ?_ _ (0 : Int32) m6 _ h
  intro m9 r h
  refine J.iconst (v := (0 : Int32)) d_O_countAhead_79 ki_0 ?_
  refine J.istore_n (lv := [(2, .int (0 : Int32)), (0, jr G 89), (1, .int (x5 - (1 : Int32)))]) d_O_countAhead_80 rfl (by decide) rfl ?_
  refine J.sub (ls' := [(0, jr G 89), (1, .int (x5 - (1 : Int32))), (2, .int (0 : Int32))]) [1, 2, 0] rfl ?_
  refine jlp_O_countAhead_81 hG (x5 - (1 : Int32)) _ ?_ _ (0 : Int32) m9 _ h
  intro m13 r h
  cases h
  exact J.vret d_O_countAhead_106 rfl rfl

def lp_O_bestQuestion_41 (v1 : Int32) (v4 : Int32) (k111 : Int32 → Int32 → jMem → Option (Int32 × jMem)) : Nat → Int32 → Int32 → Int32 → jMem → Option (Int32 × jMem)
  | 0, _, _, _, _ => none
  | n + 1, v2, v3, v5, m =>
    if (m 89 6) ≤ v5 then
      k111 v2 v3 m
    else
      jl3 96 v4 fun q5 =>
      jld 1 m q5 v5 fun x6 =>
      jl3 96 v4 fun q7 =>
      jld 1 m q7 v5 fun x8 =>
      if (jmin x6 (v1 - x8)) ≤ v3 then
        lp_O_bestQuestion_41 v1 v4 k111 n v2 v3 (v5 + (1 : Int32)) m
      else
        jld 1 m 92 v4 fun x9 =>
        jld 1 m 92 v5 fun x10 =>
        lp_O_bestQuestion_41 v1 v4 k111 n (((32 : Int32) * x9) + x10) (jmin x6 (v1 - x8)) (v5 + (1 : Int32)) m
def lp_O_bestQuestion_26 (v1 : Int32) (k117 : Int32 → jMem → Option (Int32 × jMem)) : Nat → Int32 → Int32 → Int32 → jMem → Option (Int32 × jMem)
  | 0, _, _, _, _ => none
  | n + 1, v2, v3, v4, m =>
    if (m 89 6) ≤ v4 then
      k117 v2 m
    else
      lp_O_bestQuestion_41 v1 v4 (fun w12 w13 m11 =>
        lp_O_bestQuestion_26 v1 k117 n w12 w13 (v4 + (1 : Int32)) m11) 5000 v2 v3 (v4 + (1 : Int32)) m
def f_O_bestQuestion (m : jMem) : Option (Int32 × jMem) :=
  if (2 : Int32) ≤ (m 89 6) then
    jbd (f_O_howMany m) fun x1 m2 =>
    jbd (f_O_countAhead m2) fun u3 m4 =>
    lp_O_bestQuestion_26 x1 (fun w15 m14 =>
      some (w15, m14)) 5000 (-1 : Int32) (-1 : Int32) (0 : Int32) m4
  else
    some ((-1 : Int32), m)
theorem jlp_O_bestQuestion_41 {G : jG} (hG : jFul G) (v1 : Int32) (v4 : Int32) (k111 : Int32 → Int32 → jMem → Option (Int32 × jMem))
    (hk111 : ∀ (v2 : Int32) (v3 : Int32) (m : jMem) (r : (Int32 × jMem)), k111 v2 v3 m = some r → J G Y_O_bestQuestion 111 [(0, jr G 89), (1, .int v1), (2, .int v2), (3, .int v3), (4, .int v4)] [] m (jri r)) : ∀ (n : Nat) (v2 : Int32) (v3 : Int32) (v5 : Int32) (m : jMem) (r : (Int32 × jMem)), lp_O_bestQuestion_41 v1 v4 k111 n v2 v3 v5 m = some r → J G Y_O_bestQuestion 41 [(0, jr G 89), (1, .int v1), (2, .int v2), (3, .int v3), (4, .int v4), (5, .int v5)] [] m (jri r) := by
  intro n
  induction n with
  | zero => intro v2 v3 v5 m r h; unfold lp_O_bestQuestion_41 at h; cases h
  | succ n ih =>
    intro v2 v3 v5 m r h
    unfold lp_O_bestQuestion_41 at h
    refine J.iload 5 d_O_bestQuestion_41 rfl ?_
    refine J.aload_n 0 d_O_bestQuestion_43 rfl rfl ?_
    refine J.getI hG d_O_bestQuestion_44 fl_O_68 ck_89_6 ?_
    refine J.icmp_ge 111 d_O_bestQuestion_47 rfl (fun c => ?_) (fun c => ?_)
    · rw [if_pos c] at h
      exact J.sub (ls' := [(0, jr G 89), (1, .int v1), (2, .int v2), (3, .int v3), (4, .int v4)]) [0, 1, 2, 3, 4] rfl (hk111 v2 v3 m _ h)
    · rw [if_neg c] at h
      refine J.aload_n 0 d_O_bestQuestion_50 rfl rfl ?_
      refine J.getF (n := 96) hG d_O_bestQuestion_51 fl_O_32 ck_89_9 rfl ?_
      refine J.iload 4 d_O_bestQuestion_54 rfl ?_
      obtain ⟨q5, eq5, gq5, h⟩ := jl3_some h
      refine J.a3 hG d_O_bestQuestion_56 gq5 eq5 ?_
      refine J.nop (pc' := 57) rfl ?_
      refine J.iload 5 d_O_bestQuestion_57 rfl ?_
      obtain ⟨x6, ex6, g, h⟩ := jld_some h
      refine J.il hG d_O_bestQuestion_59 g ex6 ?_
      refine J.iload_n 1 d_O_bestQuestion_60 rfl rfl ?_
      refine J.aload_n 0 d_O_bestQuestion_61 rfl rfl ?_
      refine J.getF (n := 96) hG d_O_bestQuestion_62 fl_O_32 ck_89_9 rfl ?_
      refine J.iload 4 d_O_bestQuestion_65 rfl ?_
      obtain ⟨q7, eq7, gq7, h⟩ := jl3_some h
      refine J.a3 hG d_O_bestQuestion_67 gq7 eq7 ?_
      refine J.iload 5 d_O_bestQuestion_68 rfl ?_
      refine J.nop (pc' := 70) rfl ?_
      obtain ⟨x8, ex8, g, h⟩ := jld_some h
      refine J.il hG d_O_bestQuestion_70 g ex8 ?_
      refine J.isub d_O_bestQuestion_71 ?_
      refine J.mn d_O_bestQuestion_72 (jt_5 178 rfl rfl) (jt_2 223 rfl rfl) (jt_1 14 rfl rfl) (jt_2 224 rfl rfl) (Nat.le_trans jcN (Nat.le_of_ble_eq_true rfl)) ?_
      refine J.istore (lv := [(6, .int (jmin x6 (v1 - x8))), (0, jr G 89), (1, .int v1), (2, .int v2), (3, .int v3), (4, .int v4), (5, .int v5)]) d_O_bestQuestion_75 (by decide) rfl ?_
      refine J.iload 0 d_O_bestQuestion_77 rfl ?_
      refine J.iload_n 4 d_O_bestQuestion_79 rfl rfl ?_
      refine J.icmp_le 105 d_O_bestQuestion_80 rfl (fun c => ?_) (fun c => ?_)
      · rw [if_pos c] at h
        refine J.iinc 6 (v := (1 : Int32)) (lv := [(5, .int (v5 + (1 : Int32))), (6, .int (jmin x6 (v1 - x8))), (0, jr G 89), (1, .int v1), (2, .int v2), (3, .int v3), (4, .int v4)]) d_O_bestQuestion_105 rfl ki_1 (by decide) rfl ?_
        refine J.goto 41 d_O_bestQuestion_108 rfl ?_
        exact J.sub (ls' := [(0, jr G 89), (1, .int v1), (2, .int v2), (3, .int v3), (4, .int v4), (5, .int (v5 + (1 : Int32)))]) [2, 3, 4, 5, 6, 0] rfl (ih v2 v3 (v5 + (1 : Int32)) m _ h)
      · rw [if_neg c] at h
        refine J.iload 0 d_O_bestQuestion_83 rfl ?_
        refine J.nop (pc' := 85) rfl ?_
        refine J.istore_n (lv := [(3, .int (jmin x6 (v1 - x8))), (6, .int (jmin x6 (v1 - x8))), (0, jr G 89), (1, .int v1), (2, .int v2), (4, .int v4), (5, .int v5)]) d_O_bestQuestion_85 rfl (by decide) rfl ?_
        refine J.bipush (v := (32 : Int32)) d_O_bestQuestion_86 kb_32 ?_
        refine J.aload_n 2 d_O_bestQuestion_88 rfl rfl ?_
        refine J.getF (n := 92) hG d_O_bestQuestion_89 fl_O_18 ck_89_4 rfl ?_
        refine J.iload 5 d_O_bestQuestion_92 rfl ?_
        obtain ⟨x9, ex9, g, h⟩ := jld_some h
        refine J.il hG d_O_bestQuestion_94 g ex9 ?_
        refine J.imul d_O_bestQuestion_95 ?_
        refine J.aload_n 2 d_O_bestQuestion_96 rfl rfl ?_
        refine J.nop (pc' := 97) rfl ?_
        refine J.getF (n := 92) hG d_O_bestQuestion_97 fl_O_18 ck_89_4 rfl ?_
        refine J.iload 6 d_O_bestQuestion_100 rfl ?_
        obtain ⟨x10, ex10, g, h⟩ := jld_some h
        refine J.il hG d_O_bestQuestion_102 g ex10 ?_
        refine J.iadd d_O_bestQuestion_103 ?_
        refine J.istore_n (lv := [(2, .int (((32 : Int32) * x9) + x10)), (3, .int (jmin x6 (v1 - x8))), (6, .int (jmin x6 (v1 - x8))), (0, jr G 89), (1, .int v1), (4, .int v4), (5, .int v5)]) d_O_bestQuestion_104 rfl (by decide) rfl ?_
        refine J.iinc 6 (v := (1 : Int32)) (lv := [(5, .int (v5 + (1 : Int32))), (2, .int (((32 : Int32) * x9) + x10)), (3, .int (jmin x6 (v1 - x8))), (6, .int (jmin x6 (v1 - x8))), (0, jr G 89), (1, .int v1), (4, .int v4)]) d_O_bestQuestion_105 rfl ki_1 (by decide) rfl ?_
        refine J.goto 41 d_O_bestQuestion_108 rfl ?_
        exact J.sub (ls' := [(0, jr G 89), (1, .int v1), (2, .int (((32 : Int32) * x9) + x10)), (3, .int (jmin x6 (v1 - x8))), (4, .int v4), (5, .int (v5 + (1 : Int32)))]) [4, 5, 1, 2, 6, 0] rfl (ih (((32 : Int32) * x9) + x10) (jmin x6 (v1 - x8)) (v5 + (1 : Int32)) m _ h)
theorem jlp_O_bestQuestion_26 {G : jG} (hG : jFul G) (v1 : Int32) (k117 : Int32 → jMem → Option (Int32 × jMem))
    (hk117 : ∀ (v2 : Int32) (m : jMem) (r : (Int32 × jMem)), k117 v2 m = some r → J G Y_O_bestQuestion 117 [(2, .int v2)] [] m (jri r)) : ∀ (n : Nat) (v2 : Int32) (v3 : Int32) (v4 : Int32) (m : jMem) (r : (Int32 × jMem)), lp_O_bestQuestion_26 v1 k117 n v2 v3 v4 m = some r → J G Y_O_bestQuestion 26 [(0, jr G 89), (1, .int v1), (2, .int v2), (3, .int v3), (4, .int v4)] [] m (jri r) := by
  intro n
  induction n with
  | zero => intro v2 v3 v4 m r h; unfold lp_O_bestQuestion_26 at h; cases h
  | succ n ih =>
    intro v2 v3 v4 m r h
    unfold lp_O_bestQuestion_26 at h
    refine J.iload 4 d_O_bestQuestion_26 rfl ?_
    refine J.aload_n 0 d_O_bestQuestion_28 rfl rfl ?_
    refine J.getI hG d_O_bestQuestion_29 fl_O_68 ck_89_6 ?_
    refine J.icmp_ge 117 d_O_bestQuestion_32 rfl (fun c => ?_) (fun c => ?_)
    · rw [if_pos c] at h
      exact J.sub (ls' := [(2, .int v2)]) [2] rfl (hk117 v2 m _ h)
    · rw [if_neg c] at h
      refine J.iload 4 d_O_bestQuestion_35 rfl ?_
      refine J.iconst (v := (1 : Int32)) d_O_bestQuestion_37 ki_1 ?_
      refine J.iadd d_O_bestQuestion_38 ?_
      refine J.istore (lv := [(5, .int (v4 + (1 : Int32))), (0, jr G 89), (1, .int v1), (2, .int v2), (3, .int v3), (4, .int v4)]) d_O_bestQuestion_39 (by decide) rfl ?_
      refine J.sub (ls' := [(0, jr G 89), (1, .int v1), (2, .int v2), (3, .int v3), (4, .int v4), (5, .int (v4 + (1 : Int32)))]) [1, 2, 3, 4, 5, 0] rfl ?_
      refine jlp_O_bestQuestion_41 hG v1 v4 _ ?_ _ v2 v3 (v4 + (1 : Int32)) m _ h
      intro w12 w13 m11 r h
      refine J.iinc 4 (v := (1 : Int32)) (lv := [(4, .int (v4 + (1 : Int32))), (0, jr G 89), (1, .int v1), (2, .int w12), (3, .int w13)]) d_O_bestQuestion_111 rfl ki_1 (by decide) rfl ?_
      refine J.goto 26 d_O_bestQuestion_114 rfl ?_
      exact J.sub (ls' := [(0, jr G 89), (1, .int v1), (2, .int w12), (3, .int w13), (4, .int (v4 + (1 : Int32)))]) [1, 2, 3, 4, 0] rfl (ih w12 w13 (v4 + (1 : Int32)) m11 _ h)
theorem c_O_bestQuestion {G : jG} (hG : jFul G) {m : jMem} {r : (Int32 × jMem)} (h : f_O_bestQuestion m = some r) : jCt G Y_O_bestQuestion [jr G 89] m (jri r) := by
  refine jCt.ov (ls := [(0, jr G 89)]) mi_O_bestQuestion (jAvR jAvN) (Nat.le_of_ble_eq_true rfl) ?_ ⟨rfl, rfl⟩
  unfold f_O_bestQuestion at h
  refine J.aload_n 0 d_O_bestQuestion_0 rfl rfl ?_
  refine J.getI hG d_O_bestQuestion_1 fl_O_68 ck_89_6 ?_
  refine J.iconst (v := (2 : Int32)) d_O_bestQuestion_4 ki_2 ?_
  refine J.icmp_ge 10 d_O_bestQuestion_5 rfl (fun c => ?_) (fun c => ?_)
  · rw [if_pos c] at h
    refine J.aload_n 0 d_O_bestQuestion_10 rfl rfl ?_
    obtain ⟨x1, m2, zm2, h⟩ := jbd_some h
    refine J.cVi Y_O_howMany (As := []) (rest := []) hG d_O_bestQuestion_11 mi_O_howMany mv_O_howMany lk_O_79 ⟨rfl, rfl, Nat.le_of_ble_eq_true rfl⟩ cq_89 cc_9 (c_O_howMany hG zm2) rfl (Nat.le_trans jcN (Nat.le_of_ble_eq_true rfl)) ?_
    refine J.istore_n (lv := [(1, .int x1), (0, jr G 89)]) d_O_bestQuestion_14 rfl (by decide) rfl ?_
    refine J.aload_n 1 d_O_bestQuestion_15 rfl rfl ?_
    obtain ⟨u3, m4, zm4, h⟩ := jbd_some h
    refine J.cVv Y_O_countAhead (As := []) (rest := []) hG d_O_bestQuestion_16 mi_O_countAhead mv_O_countAhead lk_O_90 ⟨rfl, rfl, Nat.le_of_ble_eq_true rfl⟩ cq_89 cc_9 (c_O_countAhead hG zm4) rfl (Nat.le_trans jcN (Nat.le_of_ble_eq_true rfl)) ?_
    refine J.iconst (v := (-1 : Int32)) d_O_bestQuestion_19 ki_m1 ?_
    refine J.istore_n (lv := [(2, .int (-1 : Int32)), (1, .int x1), (0, jr G 89)]) d_O_bestQuestion_20 rfl (by decide) rfl ?_
    refine J.iconst (v := (-1 : Int32)) d_O_bestQuestion_21 ki_m1 ?_
    refine J.nop (pc' := 22) rfl ?_
    refine J.istore_n (lv := [(3, .int (-1 : Int32)), (2, .int (-1 : Int32)), (1, .int x1), (0, jr G 89)]) d_O_bestQuestion_22 rfl (by decide) rfl ?_
    refine J.iconst (v := (0 : Int32)) d_O_bestQuestion_23 ki_0 ?_
    refine J.istore (lv := [(4, .int (0 : Int32)), (3, .int (-1 : Int32)), (2, .int (-1 : Int32)), (1, .int x1), (0, jr G 89)]) d_O_bestQuestion_24 (by decide) rfl ?_
    refine J.sub (ls' := [(0, jr G 89), (1, .int x1), (2, .int (-1 : Int32)), (3, .int (-1 : Int32)), (4, .int (0 : Int32))]) [4, 3, 2, 1, 0] rfl ?_
    refine jlp_O_bestQuestion_26 hG x1 _ ?_ _ (-1 : Int32) (-1 : Int32) (0 : Int32) m4 _ h
    intro w15 m14 r h
    refine J.iload_n 0 d_O_bestQuestion_117 rfl rfl ?_
    cases h
    exact J.iret d_O_bestQuestion_118 rfl (vp_nar_int _) rfl
  · rw [if_neg c] at h
    refine J.iconst (v := (-1 : Int32)) d_O_bestQuestion_8 ki_m1 ?_
    cases h
    exact J.iret d_O_bestQuestion_9 rfl (vp_nar_int _) rfl
