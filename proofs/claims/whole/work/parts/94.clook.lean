/-! the class's look, its contract -/
set_option maxRecDepth 20000
theorem d_C_look_0 : decode prog_1_method_13_code 0 = .ok (.aload_n 0, 1) := by decide +kernel
theorem d_C_look_1 : decode prog_1_method_13_code 1 = .ok (.getfield 38, 3) := by decide +kernel
theorem d_C_look_4 : decode prog_1_method_13_code 4 = .ok (.iload_n 1, 1) := by decide +kernel
theorem d_C_look_5 : decode prog_1_method_13_code 5 = .ok (.invokevirtual 132, 3) := by decide +kernel
theorem d_C_look_8 : decode prog_1_method_13_code 8 = .ok (.ifCond .ne 13, 3) := by decide +kernel
theorem d_C_look_11 : decode prog_1_method_13_code 11 = .ok (.new 165, 3) := by decide +kernel
theorem d_C_look_14 : decode prog_1_method_13_code 14 = .ok (.dup, 1) := by decide +kernel
theorem d_C_look_15 : decode prog_1_method_13_code 15 = .ok (.ldc 167, 2) := by decide +kernel
theorem d_C_look_17 : decode prog_1_method_13_code 17 = .ok (.invokespecial 169, 3) := by decide +kernel
theorem d_C_look_20 : decode prog_1_method_13_code 20 = .ok (.athrow, 1) := by decide +kernel
theorem d_C_look_21 : decode prog_1_method_13_code 21 = .ok (.iload_n 2, 1) := by decide +kernel
theorem d_C_look_22 : decode prog_1_method_13_code 22 = .ok (.tableswitch 98 0 5 #[38, 48, 58, 68, 78, 88], 38) := by decide +kernel
theorem d_C_look_60 : decode prog_1_method_13_code 60 = .ok (.aload_n 0, 1) := by decide +kernel
theorem d_C_look_61 : decode prog_1_method_13_code 61 = .ok (.getfield 38, 3) := by decide +kernel
theorem d_C_look_64 : decode prog_1_method_13_code 64 = .ok (.getfield 172, 3) := by decide +kernel
theorem d_C_look_67 : decode prog_1_method_13_code 67 = .ok (.iload_n 1, 1) := by decide +kernel
theorem d_C_look_68 : decode prog_1_method_13_code 68 = .ok (.iaload, 1) := by decide +kernel
theorem d_C_look_69 : decode prog_1_method_13_code 69 = .ok (.ireturn, 1) := by decide +kernel
theorem d_C_look_70 : decode prog_1_method_13_code 70 = .ok (.aload_n 0, 1) := by decide +kernel
theorem d_C_look_71 : decode prog_1_method_13_code 71 = .ok (.getfield 38, 3) := by decide +kernel
theorem d_C_look_74 : decode prog_1_method_13_code 74 = .ok (.getfield 175, 3) := by decide +kernel
theorem d_C_look_77 : decode prog_1_method_13_code 77 = .ok (.iload_n 1, 1) := by decide +kernel
theorem d_C_look_78 : decode prog_1_method_13_code 78 = .ok (.iaload, 1) := by decide +kernel
theorem d_C_look_79 : decode prog_1_method_13_code 79 = .ok (.ireturn, 1) := by decide +kernel
theorem d_C_look_80 : decode prog_1_method_13_code 80 = .ok (.aload_n 0, 1) := by decide +kernel
theorem d_C_look_81 : decode prog_1_method_13_code 81 = .ok (.getfield 38, 3) := by decide +kernel
theorem d_C_look_84 : decode prog_1_method_13_code 84 = .ok (.getfield 178, 3) := by decide +kernel
theorem d_C_look_87 : decode prog_1_method_13_code 87 = .ok (.iload_n 1, 1) := by decide +kernel
theorem d_C_look_88 : decode prog_1_method_13_code 88 = .ok (.iaload, 1) := by decide +kernel
theorem d_C_look_89 : decode prog_1_method_13_code 89 = .ok (.ireturn, 1) := by decide +kernel
theorem d_C_look_90 : decode prog_1_method_13_code 90 = .ok (.aload_n 0, 1) := by decide +kernel
theorem d_C_look_91 : decode prog_1_method_13_code 91 = .ok (.getfield 38, 3) := by decide +kernel
theorem d_C_look_94 : decode prog_1_method_13_code 94 = .ok (.getfield 181, 3) := by decide +kernel
theorem d_C_look_97 : decode prog_1_method_13_code 97 = .ok (.iload_n 1, 1) := by decide +kernel
theorem d_C_look_98 : decode prog_1_method_13_code 98 = .ok (.iaload, 1) := by decide +kernel
theorem d_C_look_99 : decode prog_1_method_13_code 99 = .ok (.ireturn, 1) := by decide +kernel
theorem d_C_look_100 : decode prog_1_method_13_code 100 = .ok (.aload_n 0, 1) := by decide +kernel
theorem d_C_look_101 : decode prog_1_method_13_code 101 = .ok (.getfield 38, 3) := by decide +kernel
theorem d_C_look_104 : decode prog_1_method_13_code 104 = .ok (.getfield 184, 3) := by decide +kernel
theorem d_C_look_107 : decode prog_1_method_13_code 107 = .ok (.iload_n 1, 1) := by decide +kernel
theorem d_C_look_108 : decode prog_1_method_13_code 108 = .ok (.iaload, 1) := by decide +kernel
theorem d_C_look_109 : decode prog_1_method_13_code 109 = .ok (.ireturn, 1) := by decide +kernel
theorem d_C_look_110 : decode prog_1_method_13_code 110 = .ok (.aload_n 0, 1) := by decide +kernel
theorem d_C_look_111 : decode prog_1_method_13_code 111 = .ok (.getfield 38, 3) := by decide +kernel
theorem d_C_look_114 : decode prog_1_method_13_code 114 = .ok (.getfield 187, 3) := by decide +kernel
theorem d_C_look_117 : decode prog_1_method_13_code 117 = .ok (.iload_n 1, 1) := by decide +kernel
theorem d_C_look_118 : decode prog_1_method_13_code 118 = .ok (.iaload, 1) := by decide +kernel
theorem d_C_look_119 : decode prog_1_method_13_code 119 = .ok (.ireturn, 1) := by decide +kernel
theorem d_C_look_120 : decode prog_1_method_13_code 120 = .ok (.new 190, 3) := by decide +kernel
theorem d_C_look_123 : decode prog_1_method_13_code 123 = .ok (.dup, 1) := by decide +kernel
theorem d_C_look_124 : decode prog_1_method_13_code 124 = .ok (.ldc 192, 2) := by decide +kernel
theorem d_C_look_126 : decode prog_1_method_13_code 126 = .ok (.invokespecial 194, 3) := by decide +kernel
theorem d_C_look_129 : decode prog_1_method_13_code 129 = .ok (.athrow, 1) := by decide +kernel
theorem d_WL_0 : decode method_3_code 0 = .ok (.aload_n 3, 1) := by decide +kernel
theorem d_WL_1 : decode method_3_code 1 = .ok (.iconst 0, 1) := by decide +kernel
theorem d_WL_2 : decode method_3_code 2 = .ok (.aload_n 0, 1) := by decide +kernel
theorem d_WL_3 : decode method_3_code 3 = .ok (.iload_n 1, 1) := by decide +kernel
theorem d_WL_4 : decode method_3_code 4 = .ok (.iload_n 2, 1) := by decide +kernel
theorem d_WL_5 : decode method_3_code 5 = .ok (.invokevirtual 7, 3) := by decide +kernel
theorem d_WL_8 : decode method_3_code 8 = .ok (.i2l, 1) := by decide +kernel
theorem d_WL_9 : decode method_3_code 9 = .ok (.lastore, 1) := by decide +kernel
theorem d_WL_10 : decode method_3_code 10 = .ok (.goto 11, 3) := by decide +kernel
theorem d_WL_13 : decode method_3_code 13 = .ok (.astore 4, 2) := by decide +kernel
theorem d_WL_15 : decode method_3_code 15 = .ok (.iconst 1, 1) := by decide +kernel
theorem d_WL_16 : decode method_3_code 16 = .ok (.ireturn, 1) := by decide +kernel
theorem d_WL_17 : decode method_3_code 17 = .ok (.astore 4, 2) := by decide +kernel
theorem d_WL_19 : decode method_3_code 19 = .ok (.iconst 2, 1) := by decide +kernel
theorem d_WL_20 : decode method_3_code 20 = .ok (.ireturn, 1) := by decide +kernel
theorem d_WL_21 : decode method_3_code 21 = .ok (.iconst 0, 1) := by decide +kernel
theorem d_WL_22 : decode method_3_code 22 = .ok (.ireturn, 1) := by decide +kernel
abbrev Y_C_lk (a b : Nat) : jY := (⟨"CitingLetters", "look", "(II)I"⟩, prog_1_method_13_code, 3, some .int, 6, a, b)
theorem mi_C_look : jMi ⟨"CitingLetters", "look", "(II)I"⟩ prog_1_method_13_code 3 (some .int) 2 := ⟨jt_5 217 rfl rfl, jt_1 1 rfl rfl, ⟨by decide +kernel, by decide +kernel, by decide +kernel⟩, by decide, by decide +kernel⟩
theorem mv_C_look : jMv ⟨"CitingLetters", "look", "(II)I"⟩ := ⟨jt_5 215 rfl rfl, jt_5 216 rfl rfl⟩
theorem fl_C_184x : jFl "CitingLetters" 184 4 4 := ⟨"CitingLetters$Ledger", jTL, 17, rfl, by decide, rfl, iw_L, rfl, Or.inr ⟨"CitingLetters", jn_1 192 rfl rfl⟩⟩
theorem fl_C_187x : jFl "CitingLetters" 187 4 5 := ⟨"CitingLetters$Ledger", jTL, 17, rfl, by decide, rfl, iw_L, rfl, Or.inr ⟨"CitingLetters", jn_1 194 rfl rfl⟩⟩
/-- which way it ends, its answer, the memory behind it -/
def f_C_look (v1 v2 : Int32) (m : jMem) : Option ((Nat × Int32) × jMem) :=
  jbd (f_L_isLetter v1 m) fun x1 m2 =>
  if x1 = 0 then
    some ((1, 0), m2)
  else
    if v2 = (0 : Int32) then
      jld 1 m2 30 v1 fun x => some ((0, x), m2)
    else
      if v2 = (1 : Int32) then
        jld 1 m2 31 v1 fun x => some ((0, x), m2)
      else
        if v2 = (2 : Int32) then
          jld 1 m2 32 v1 fun x => some ((0, x), m2)
        else
          if v2 = (3 : Int32) then
            jld 1 m2 33 v1 fun x => some ((0, x), m2)
          else
            if v2 = (4 : Int32) then
              jld 1 m2 34 v1 fun x => some ((0, x), m2)
            else
              if v2 = (5 : Int32) then
                jld 1 m2 35 v1 fun x => some ((0, x), m2)
              else
                some ((2, 0), m2)
def xE (k : Nat) : String := if k = 1 then xIO else xNS
def jQx (G : jG) (r : (Nat × Int32) × jMem) : Array Value → State → Outcome → State → Prop := fun a st o t => r.1.1 = 0 ∧ jQc G (some (.int r.1.2), r.2) a st o t
def jXC (G : jG) (r : (Nat × Int32) × jMem) : String → State → State → Prop := fun E st t => (r.1.1 = 1 ∨ r.1.1 = 2) ∧ E = xE r.1.1 ∧ jWd G r.2 t.heap ∧ st.heap.size ≤ t.heap.size
section CL
variable {G : jG} {v1 v2 : Int32} {m m2 : jMem} {Q : jQT}
/-- up to its first branch -/
theorem look_head (hG : jFul G) {a b : Nat} {x1 : Int32} (z : f_L_isLetter v1 m = some (x1, m2)) (K : JQ G (Y_C_lk a b) 8 [(0, jr G 1), (1, .int v1), (2, .int v2)] [.int x1] m2 Q) : JQ G (Y_C_lk a b) 0 [(0, jr G 1), (1, .int v1), (2, .int v2)] [] m Q := by
  refine J.aload_n 0 d_C_look_0 rfl rfl ?_
  refine J.getF (n := 29) hG d_C_look_1 fl_C_38 ck_1_7 rfl ?_
  refine J.iload_n 1 d_C_look_4 rfl rfl ?_
  exact J.cVi Y_L_isLetter (As := [.int v1]) (rest := []) hG d_C_look_5 mi_L_isLetter mv_L_isLetter lk_C_132 ⟨rfl, rfl, Nat.le_of_ble_eq_true rfl⟩ cq_29 cc_4 (c_L_isLetter hG z) rfl (Nat.le_trans jcN (Nat.le_of_ble_eq_true rfl)) K
/-- what a letter has -/
theorem look_val (hG : jFul G) {x : Int32} (h : f_C_look v1 v2 m = some ((0, x), m2)) : J G (Y_C_lk 1 6) 0 [(0, jr G 1), (1, .int v1), (2, .int v2)] [] m (some (.int x), m2) := by
  unfold f_C_look at h
  obtain ⟨x1, m3, z1, h⟩ := jbd_some h
  refine look_head hG z1 ?_
  refine J.if_ne 21 d_C_look_8 rfl (fun c => ?_) (fun c => ?_)
  · rw [if_neg c] at h
    refine J.iload_n 2 d_C_look_21 rfl rfl ?_
    by_cases c0 : v2 = (0 : Int32)
    · rw [if_pos c0] at h
      refine J.tsIn 60 d_C_look_22 c0 (by decide) (by decide) rfl (by decide) ?_
      refine J.aload_n 0 d_C_look_60 rfl rfl ?_
      refine J.getF (n := 29) hG d_C_look_61 fl_C_38 ck_1_7 rfl ?_
      refine J.getF (n := 30) hG d_C_look_64 fl_C_172 ck_29_0 rfl ?_
      refine J.iload_n 1 d_C_look_67 rfl rfl ?_
      obtain ⟨x6, ex6, g, h⟩ := jld_some h
      refine J.il hG d_C_look_68 g ex6 ?_
      cases h
      exact J.iret d_C_look_69 rfl (vp_nar_int _) rfl
    · rw [if_neg c0] at h
      by_cases c1 : v2 = (1 : Int32)
      · rw [if_pos c1] at h
        refine J.tsIn 70 d_C_look_22 c1 (by decide) (by decide) rfl (by decide) ?_
        refine J.aload_n 0 d_C_look_70 rfl rfl ?_
        refine J.getF (n := 29) hG d_C_look_71 fl_C_38 ck_1_7 rfl ?_
        refine J.getF (n := 31) hG d_C_look_74 fl_C_175 ck_29_1 rfl ?_
        refine J.iload_n 1 d_C_look_77 rfl rfl ?_
        obtain ⟨x6, ex6, g, h⟩ := jld_some h
        refine J.il hG d_C_look_78 g ex6 ?_
        cases h
        exact J.iret d_C_look_79 rfl (vp_nar_int _) rfl
      · rw [if_neg c1] at h
        by_cases c2 : v2 = (2 : Int32)
        · rw [if_pos c2] at h
          refine J.tsIn 80 d_C_look_22 c2 (by decide) (by decide) rfl (by decide) ?_
          refine J.aload_n 0 d_C_look_80 rfl rfl ?_
          refine J.getF (n := 29) hG d_C_look_81 fl_C_38 ck_1_7 rfl ?_
          refine J.getF (n := 32) hG d_C_look_84 fl_C_178 ck_29_2 rfl ?_
          refine J.iload_n 1 d_C_look_87 rfl rfl ?_
          obtain ⟨x6, ex6, g, h⟩ := jld_some h
          refine J.il hG d_C_look_88 g ex6 ?_
          cases h
          exact J.iret d_C_look_89 rfl (vp_nar_int _) rfl
        · rw [if_neg c2] at h
          by_cases c3 : v2 = (3 : Int32)
          · rw [if_pos c3] at h
            refine J.tsIn 90 d_C_look_22 c3 (by decide) (by decide) rfl (by decide) ?_
            refine J.aload_n 0 d_C_look_90 rfl rfl ?_
            refine J.getF (n := 29) hG d_C_look_91 fl_C_38 ck_1_7 rfl ?_
            refine J.getF (n := 33) hG d_C_look_94 fl_C_181 ck_29_3 rfl ?_
            refine J.iload_n 1 d_C_look_97 rfl rfl ?_
            obtain ⟨x6, ex6, g, h⟩ := jld_some h
            refine J.il hG d_C_look_98 g ex6 ?_
            cases h
            exact J.iret d_C_look_99 rfl (vp_nar_int _) rfl
          · rw [if_neg c3] at h
            by_cases c4 : v2 = (4 : Int32)
            · rw [if_pos c4] at h
              refine J.tsIn 100 d_C_look_22 c4 (by decide) (by decide) rfl (by decide) ?_
              refine J.aload_n 0 d_C_look_100 rfl rfl ?_
              refine J.getF (n := 29) hG d_C_look_101 fl_C_38 ck_1_7 rfl ?_
              refine J.getF (n := 34) hG d_C_look_104 fl_C_184x ck_29_4 rfl ?_
              refine J.iload_n 1 d_C_look_107 rfl rfl ?_
              obtain ⟨x6, ex6, g, h⟩ := jld_some h
              refine J.il hG d_C_look_108 g ex6 ?_
              cases h
              exact J.iret d_C_look_109 rfl (vp_nar_int _) rfl
            · rw [if_neg c4] at h
              by_cases c5 : v2 = (5 : Int32)
              · rw [if_pos c5] at h
                refine J.tsIn 110 d_C_look_22 c5 (by decide) (by decide) rfl (by decide) ?_
                refine J.aload_n 0 d_C_look_110 rfl rfl ?_
                refine J.getF (n := 29) hG d_C_look_111 fl_C_38 ck_1_7 rfl ?_
                refine J.getF (n := 35) hG d_C_look_114 fl_C_187x ck_29_5 rfl ?_
                refine J.iload_n 1 d_C_look_117 rfl rfl ?_
                obtain ⟨x6, ex6, g, h⟩ := jld_some h
                refine J.il hG d_C_look_118 g ex6 ?_
                cases h
                exact J.iret d_C_look_119 rfl (vp_nar_int _) rfl
              · rw [if_neg c5] at h
                cases h
  · rw [if_pos c] at h
    cases h
theorem look_out (h : f_C_look v1 v2 m = some ((2, 0), m2)) : ∃ x1 m3, f_L_isLetter v1 m = some (x1, m3) ∧ ¬ x1 = 0 ∧ m3 = m2 ∧ ∀ k, k < 6 → ¬ v2 = Int32.ofNat k := by
  unfold f_C_look at h
  obtain ⟨x1, m3, z1, h⟩ := jbd_some h
  by_cases c : x1 = 0
  · rw [if_pos c] at h
    cases h
  · rw [if_neg c] at h
    have nld : ∀ (c : Nat) (v : Int32) (K : Prop), jld 1 m3 c v (fun x => some ((0, x), m3)) = some (((2, 0), m2) : (Nat × Int32) × jMem) → K := fun c v K h => by
      obtain ⟨x6, ex6, g, h⟩ := jld_some h
      cases h
    by_cases c0 : v2 = (0 : Int32)
    · rw [if_pos c0] at h; exact nld _ _ _ h
    · rw [if_neg c0] at h
      by_cases c1 : v2 = (1 : Int32)
      · rw [if_pos c1] at h; exact nld _ _ _ h
      · rw [if_neg c1] at h
        by_cases c2 : v2 = (2 : Int32)
        · rw [if_pos c2] at h; exact nld _ _ _ h
        · rw [if_neg c2] at h
          by_cases c3 : v2 = (3 : Int32)
          · rw [if_pos c3] at h; exact nld _ _ _ h
          · rw [if_neg c3] at h
            by_cases c4 : v2 = (4 : Int32)
            · rw [if_pos c4] at h; exact nld _ _ _ h
            · rw [if_neg c4] at h
              by_cases c5 : v2 = (5 : Int32)
              · rw [if_pos c5] at h; exact nld _ _ _ h
              · rw [if_neg c5] at h
                cases h
                exact ⟨x1, _, z1, c, rfl, fun k hk => match k, hk with | 0, _ => c0 | 1, _ => c1 | 2, _ => c2 | 3, _ => c3 | 4, _ => c4 | 5, _ => c5 | k + 6, hk => absurd hk (by omega)⟩
theorem look_none (h : f_C_look v1 v2 m = some ((1, 0), m2)) : f_L_isLetter v1 m = some (0, m2) := by
  unfold f_C_look at h
  obtain ⟨x1, m3, z1, h⟩ := jbd_some h
  have nld : ∀ (c : Nat) (v : Int32) (K : Prop), jld 1 m3 c v (fun x => some ((0, x), m3)) = some (((1, 0), m2) : (Nat × Int32) × jMem) → K := fun c v K h => by
    obtain ⟨x6, ex6, g, h⟩ := jld_some h
    cases h
  by_cases c : x1 = 0
  · rw [if_pos c] at h
    cases h
    rw [z1, c]
  · rw [if_neg c] at h
    by_cases c0 : v2 = (0 : Int32)
    · rw [if_pos c0] at h; exact nld _ _ _ h
    · rw [if_neg c0] at h
      by_cases c1 : v2 = (1 : Int32)
      · rw [if_pos c1] at h; exact nld _ _ _ h
      · rw [if_neg c1] at h
        by_cases c2 : v2 = (2 : Int32)
        · rw [if_pos c2] at h; exact nld _ _ _ h
        · rw [if_neg c2] at h
          by_cases c3 : v2 = (3 : Int32)
          · rw [if_pos c3] at h; exact nld _ _ _ h
          · rw [if_neg c3] at h
            by_cases c4 : v2 = (4 : Int32)
            · rw [if_pos c4] at h; exact nld _ _ _ h
            · rw [if_neg c4] at h
              by_cases c5 : v2 = (5 : Int32)
              · rw [if_pos c5] at h; exact nld _ _ _ h
              · rw [if_neg c5] at h
                cases h
theorem c_C_look (hG : jFul G) (hx : jxE G) (hg : jGl G) {r : (Nat × Int32) × jMem} (hr : r = ((0, r.1.2), r.2) ∨ r = ((1, 0), r.2) ∨ r = ((2, 0), r.2)) (h : f_C_look v1 v2 m = some r) : vx_Met (jl G) ⟨"CitingLetters", "look", "(II)I"⟩ (jws (Y_C_lk 1 6)) (jrm 6 1 6) (jPc G [jr G 1, .int v1, .int v2] m) (jQx G r) (jXC G r) 1 6 (jA G) := by
  have hA : jAv 0 [jr G 1, .int v1, .int v2] [(0, jr G 1), (1, .int v1), (2, .int v2)] := jAvR (jAvI (jAvI jAvN))
  refine vx_ofW (cc := prog_1_method_13_code) (maxL := 3) (ret := some .int) (by decide +kernel) rfl ?_
  intro p e s m' args below meth c s₁ B hml htab hv
  obtain ⟨rfl, hW, hal, hne⟩ := hv
  have hts := atoms_spec (ws := jws (Y_C_lk 1 6)) B.pre
  have hown : s.vm.findClass "CitingLetters" = some m'.cls := findClass_of_methodNamed B.named
  have F : ∀ a b, jFx G (Y_C_lk a b) p s m' ([jr G 1, .int v1, .int v2] : List Value).toArray meth c := fun a b => ⟨B.exec, B.bytes, hml, hown, fun w hw => hts w (List.mem_cons_of_mem _ hw), B.returns, B.notSynchronized, hal, hW.2.1, hg, hne⟩
  rw [lg_entry_eq]
  have hl := lv_entry [jr G 1, .int v1, .int v2] (n := 3) (Nat.le_of_eq hA.2)
  rw [hA.1] at hl
  have hS : va_S (jA G) s.heap s.heap [] := va_S.rf
  have hfit : jFit (Y_C_lk 0 0) (jrm 6 1 6) := ⟨Nat.le_refl _, Nat.zero_le _, Nat.zero_le _, Nat.le_refl _⟩
  show W p (jl G) e (jrm 6 1 6) s m' _ below meth c s.heap [] 0 0 _ _
  rcases hr with hr | hr | hr
  · rw [hr] at h
    have K := look_val hG h p e s m' _ below meth c s.heap [] _ (jrm 6 1 6) (F 1 6) ⟨Nat.le_refl _, Nat.le_refl _, Nat.le_refl _, Nat.le_refl _⟩ hW hS hl
    refine W.widen (Nat.zero_le 1) (Nat.zero_le 6) ?_
    intro T hT X
    obtain ⟨t, a1, o, b1, b2, b3, b4⟩ := K T hT X
    exact ⟨t, a1, o, b1, b2, Or.inl ⟨⟨by rw [hr], by rw [hr]; exact b3⟩, by exact b4⟩⟩
  · rw [hr] at h
    have z := look_none h
    have J0 : JQ G (Y_C_lk 0 0) 0 [(0, jr G 1), (1, .int v1), (2, .int v2)] [] m (jAt G (Y_C_lk 0 0) 11 [(0, jr G 1), (1, .int v1), (2, .int v2)] [] r.2) := by
      refine look_head hG z ?_
      exact J.if_ne 21 d_C_look_8 rfl (fun c => absurd rfl c) (fun _ => jAt_K)
    refine J0.run (F 0 0) hfit hW hS hl (fun H1 locs1 la1 hW1 hS1 hl1 => ?_)
    have F0 := F 0 0
    exact vx_throwS (text := "no such letter") (sa := jad G 2001) F0.1 F0.2.1 hx.1 F0.2.2.2.1 (by decide +kernel) (by decide +kernel) (F0.2.2.2.2.1 _ (jt_5 218 rfl rfl)) (F0.2.2.2.2.1 _ (jt_1 25 rfl rfl)) (F0.stt.2 0 (by omega)) (at_IO2 hx F0) xI_ot (jxZ hx.2.1 F0 hW1 hS1) (jxZ hx.2.2.1 F0 hW1 hS1) hS1 (hl1.1.trans F0.2.2.1.symm) d_C_look_11 d_C_look_14 d_C_look_15 d_C_look_17 d_C_look_20 (fun x hx => (htab x hx).elim) (by decide) (by decide) (by decide) (by decide) F0.2.2.2.2.2.2.1 (fun t _ q1 q2 => ⟨Or.inl (by rw [hr]), by rw [hr]; rfl, hW1.ext q1 q2, Nat.le_trans hS1.1 q1⟩) hS1.2.2 (by decide) (by decide)
  · rw [hr] at h
    obtain ⟨x1, m3, z, hx1, rfl, hv2⟩ := look_out h
    have J0 : JQ G (Y_C_lk 0 0) 0 [(0, jr G 1), (1, .int v1), (2, .int v2)] [] m (jAt G (Y_C_lk 0 0) 120 [(0, jr G 1), (1, .int v1), (2, .int v2)] [] r.2) := by
      refine look_head hG z ?_
      refine J.if_ne 21 d_C_look_8 rfl (fun _ => ?_) (fun c => absurd c hx1)
      refine J.iload_n 2 d_C_look_21 rfl rfl ?_
      exact J.tsOut 120 d_C_look_22 (jts0 (n := 6) (by decide) hv2) rfl jAt_K
    refine J0.run (F 0 0) hfit hW hS hl (fun H1 locs1 la1 hW1 hS1 hl1 => ?_)
    have F0 := F 0 0
    exact x_throwN (text := "no such thing of a letter") (sa := jad G 2002) F0.1 F0.2.1 hx.1 F0.2.2.2.1 (F0.2.2.2.2.1 _ (jt_6 45 rfl rfl)) (F0.2.2.2.2.1 _ (jt_1 26 rfl rfl)) (F0.stt.2 1 (by omega)) (xL_at hx F0) (jxZ hx.2.1 F0 hW1 hS1) (jxZ hx.2.2.1 F0 hW1 hS1) hS1 (hl1.1.trans F0.2.2.1.symm) d_C_look_120 d_C_look_123 d_C_look_124 d_C_look_126 d_C_look_129 (fun x hx => (htab x hx).elim) (by decide) (by decide) (by decide) (by decide) F0.2.2.2.2.2.2.1 (fun t _ q1 q2 => ⟨Or.inr (by rw [hr]), by rw [hr]; rfl, hW1.ext q1 q2, Nat.le_trans hS1.1 q1⟩) hS1.2.2 (by decide) (by decide)
end CL
