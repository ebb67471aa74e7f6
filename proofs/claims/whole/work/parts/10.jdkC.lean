def f_S_isDigit (v0 : Int32) (m : jMem) : Option (Int32 × jMem) :=
  if v0 < (48 : Int32) then
    some ((0 : Int32), m)
  else
    if (57 : Int32) < v0 then
      some ((0 : Int32), m)
    else
      some ((1 : Int32), m)
theorem c_S_isDigit {G : jG} (hG : jFul G) {v0 : Int32} {m : jMem} {r : (Int32 × jMem)} (h : f_S_isDigit v0 m = some r) : jCt G Y_S_isDigit [.int v0] m (jri r) := by
  refine jCt.ov (ls := [(0, .int v0)]) mi_S_isDigit (jAvI jAvN) (Nat.le_of_ble_eq_true rfl) ?_ ⟨rfl, rfl⟩
  unfold f_S_isDigit at h
  refine J.iload_n 0 d_S_isDigit_0 rfl rfl ?_
  refine J.bipush (v := (48 : Int32)) d_S_isDigit_1 kb_48 ?_
  refine J.icmp_lt 16 d_S_isDigit_3 rfl (fun c => ?_) (fun c => ?_)
  · rw [if_pos c] at h
    refine J.iconst (v := (0 : Int32)) d_S_isDigit_16 ki_0 ?_
    cases h
    exact J.iret d_S_isDigit_17 rfl rfl rfl
  · rw [if_neg c] at h
    refine J.iload_n 0 d_S_isDigit_6 rfl rfl ?_
    refine J.bipush (v := (57 : Int32)) d_S_isDigit_7 kb_57 ?_
    refine J.icmp_gt 16 d_S_isDigit_9 rfl (fun c => ?_) (fun c => ?_)
    · rw [if_pos c] at h
      refine J.iconst (v := (0 : Int32)) d_S_isDigit_16 ki_0 ?_
      cases h
      exact J.iret d_S_isDigit_17 rfl rfl rfl
    · rw [if_neg c] at h
      refine J.iconst (v := (1 : Int32)) d_S_isDigit_12 ki_1 ?_
      refine J.goto 17 d_S_isDigit_13 rfl ?_
      cases h
      exact J.iret d_S_isDigit_17 rfl rfl rfl

def f_S_isOneSign (v0 : Int32) (v1 : Int32) (m : jMem) : Option (Int32 × jMem) :=
  if v0 = (60 : Int32) then
    if v1 = (61 : Int32) then
      some ((1 : Int32), m)
    else
      if v0 = (60 : Int32) then
        if v1 = (62 : Int32) then
          some ((1 : Int32), m)
        else
          some ((0 : Int32), m)
      else
        some ((0 : Int32), m)
  else
    if v0 = (62 : Int32) then
      if v1 = (61 : Int32) then
        some ((1 : Int32), m)
      else
        if v0 = (60 : Int32) then
          if v1 = (62 : Int32) then
            some ((1 : Int32), m)
          else
            some ((0 : Int32), m)
        else
          some ((0 : Int32), m)
    else
      if v0 = (60 : Int32) then
        if v1 = (62 : Int32) then
          some ((1 : Int32), m)
        else
          some ((0 : Int32), m)
      else
        some ((0 : Int32), m)
theorem c_S_isOneSign {G : jG} (hG : jFul G) {v0 : Int32} {v1 : Int32} {m : jMem} {r : (Int32 × jMem)} (h : f_S_isOneSign v0 v1 m = some r) : jCt G Y_S_isOneSign [.int v0, .int v1] m (jri r) := by
  refine jCt.ov (ls := [(0, .int v0), (1, .int v1)]) mi_S_isOneSign (jAvI (jAvI jAvN)) (Nat.le_of_ble_eq_true rfl) ?_ ⟨rfl, rfl⟩
  unfold f_S_isOneSign at h
  refine J.iload_n 0 d_S_isOneSign_0 rfl rfl ?_
  refine J.bipush (v := (60 : Int32)) d_S_isOneSign_1 kb_60 ?_
  refine J.icmp_eq 12 d_S_isOneSign_3 rfl (fun c => ?_) (fun c => ?_)
  · rw [if_pos c] at h
    refine J.iload_n 1 d_S_isOneSign_12 rfl rfl ?_
    refine J.bipush (v := (61 : Int32)) d_S_isOneSign_13 kb_61 ?_
    refine J.icmp_eq 30 d_S_isOneSign_15 rfl (fun c => ?_) (fun c => ?_)
    · rw [if_pos c] at h
      refine J.iconst (v := (1 : Int32)) d_S_isOneSign_30 ki_1 ?_
      refine J.goto 35 d_S_isOneSign_31 rfl ?_
      cases h
      exact J.iret d_S_isOneSign_35 rfl rfl rfl
    · rw [if_neg c] at h
      refine J.iload_n 0 d_S_isOneSign_18 rfl rfl ?_
      refine J.bipush (v := (60 : Int32)) d_S_isOneSign_19 kb_60 ?_
      refine J.icmp_ne 34 d_S_isOneSign_21 rfl (fun c => ?_) (fun c => ?_)
      · rw [if_neg c] at h
        refine J.iconst (v := (0 : Int32)) d_S_isOneSign_34 ki_0 ?_
        cases h
        exact J.iret d_S_isOneSign_35 rfl rfl rfl
      · rw [if_pos c] at h
        refine J.iload_n 1 d_S_isOneSign_24 rfl rfl ?_
        refine J.bipush (v := (62 : Int32)) d_S_isOneSign_25 kb_62 ?_
        refine J.nop (pc' := 27) rfl ?_
        refine J.icmp_ne 34 d_S_isOneSign_27 rfl (fun c => ?_) (fun c => ?_)
        · rw [if_neg c] at h
          refine J.iconst (v := (0 : Int32)) d_S_isOneSign_34 ki_0 ?_
          cases h
          exact J.iret d_S_isOneSign_35 rfl rfl rfl
        · rw [if_pos c] at h
          refine J.iconst (v := (1 : Int32)) d_S_isOneSign_30 ki_1 ?_
          refine J.goto 35 d_S_isOneSign_31 rfl ?_
          cases h
          exact J.iret d_S_isOneSign_35 rfl rfl rfl
  · rw [if_neg c] at h
    refine J.iload_n 0 d_S_isOneSign_6 rfl rfl ?_
    refine J.bipush (v := (62 : Int32)) d_S_isOneSign_7 kb_62 ?_
    refine J.icmp_ne 18 d_S_isOneSign_9 rfl (fun c => ?_) (fun c => ?_)
    · rw [if_neg c] at h
      refine J.iload_n 0 d_S_isOneSign_18 rfl rfl ?_
      refine J.bipush (v := (60 : Int32)) d_S_isOneSign_19 kb_60 ?_
      refine J.icmp_ne 34 d_S_isOneSign_21 rfl (fun c => ?_) (fun c => ?_)
      · rw [if_neg c] at h
        refine J.iconst (v := (0 : Int32)) d_S_isOneSign_34 ki_0 ?_
        cases h
        exact J.iret d_S_isOneSign_35 rfl rfl rfl
      · rw [if_pos c] at h
        refine J.iload_n 1 d_S_isOneSign_24 rfl rfl ?_
        refine J.bipush (v := (62 : Int32)) d_S_isOneSign_25 kb_62 ?_
        refine J.icmp_ne 34 d_S_isOneSign_27 rfl (fun c => ?_) (fun c => ?_)
        · rw [if_neg c] at h
          refine J.iconst (v := (0 : Int32)) d_S_isOneSign_34 ki_0 ?_
          cases h
          exact J.iret d_S_isOneSign_35 rfl rfl rfl
        · rw [if_pos c] at h
          refine J.iconst (v := (1 : Int32)) d_S_isOneSign_30 ki_1 ?_
          refine J.goto 35 d_S_isOneSign_31 rfl ?_
          cases h
          exact J.iret d_S_isOneSign_35 rfl rfl rfl
    · rw [if_pos c] at h
      refine J.iload_n 1 d_S_isOneSign_12 rfl rfl ?_
      refine J.bipush (v := (61 : Int32)) d_S_isOneSign_13 kb_61 ?_
      refine J.nop (pc' := 15) rfl ?_
      refine J.icmp_eq 30 d_S_isOneSign_15 rfl (fun c => ?_) (fun c => ?_)
      · rw [if_pos c] at h
        refine J.iconst (v := (1 : Int32)) d_S_isOneSign_30 ki_1 ?_
        refine J.goto 35 d_S_isOneSign_31 rfl ?_
        cases h
        exact J.iret d_S_isOneSign_35 rfl rfl rfl
      · rw [if_neg c] at h
        refine J.iload_n 0 d_S_isOneSign_18 rfl rfl ?_
        refine J.bipush (v := (60 : Int32)) d_S_isOneSign_19 kb_60 ?_
        refine J.icmp_ne 34 d_S_isOneSign_21 rfl (fun c => ?_) (fun c => ?_)
        · rw [if_neg c] at h
          refine J.iconst (v := (0 : Int32)) d_S_isOneSign_34 ki_0 ?_
          cases h
          exact J.iret d_S_isOneSign_35 rfl rfl rfl
        · rw [if_pos c] at h
          refine J.iload_n 1 d_S_isOneSign_24 rfl rfl ?_
          refine J.bipush (v := (62 : Int32)) d_S_isOneSign_25 kb_62 ?_
          refine J.icmp_ne 34 d_S_isOneSign_27 rfl (fun c => ?_) (fun c => ?_)
          · rw [if_neg c] at h
            refine J.iconst (v := (0 : Int32)) d_S_isOneSign_34 ki_0 ?_
            cases h
            exact J.iret d_S_isOneSign_35 rfl rfl rfl
          · rw [if_pos c] at h
            refine J.iconst (v := (1 : Int32)) d_S_isOneSign_30 ki_1 ?_
            refine J.nop (pc' := 31) rfl ?_
            refine J.goto 35 d_S_isOneSign_31 rfl ?_
            cases h
            exact J.iret d_S_isOneSign_35 rfl rfl rfl

def f_S_isSmallLetter (v0 : Int32) (m : jMem) : Option (Int32 × jMem) :=
  if v0 < (97 : Int32) then
    some ((0 : Int32), m)
  else
    if (122 : Int32) < v0 then
      some ((0 : Int32), m)
    else
      some ((1 : Int32), m)
theorem c_S_isSmallLetter {G : jG} (hG : jFul G) {v0 : Int32} {m : jMem} {r : (Int32 × jMem)} (h : f_S_isSmallLetter v0 m = some r) : jCt G Y_S_isSmallLetter [.int v0] m (jri r) := by
  refine jCt.ov (ls := [(0, .int v0)]) mi_S_isSmallLetter (jAvI jAvN) (Nat.le_of_ble_eq_true rfl) ?_ ⟨rfl, rfl⟩
  unfold f_S_isSmallLetter at h
  refine J.iload_n 0 d_S_isSmallLetter_0 rfl rfl ?_
  refine J.bipush (v := (97 : Int32)) d_S_isSmallLetter_1 kb_97 ?_
  refine J.icmp_lt 16 d_S_isSmallLetter_3 rfl (fun c => ?_) (fun c => ?_)
  · rw [if_pos c] at h
    refine J.iconst (v := (0 : Int32)) d_S_isSmallLetter_16 ki_0 ?_
    cases h
    exact J.iret d_S_isSmallLetter_17 rfl rfl rfl
  · rw [if_neg c] at h
    refine J.iload_n 0 d_S_isSmallLetter_6 rfl rfl ?_
    refine J.bipush (v := (122 : Int32)) d_S_isSmallLetter_7 kb_122 ?_
    refine J.icmp_gt 16 d_S_isSmallLetter_9 rfl (fun c => ?_) (fun c => ?_)
    · rw [if_pos c] at h
      refine J.iconst (v := (0 : Int32)) d_S_isSmallLetter_16 ki_0 ?_
      cases h
      exact J.iret d_S_isSmallLetter_17 rfl rfl rfl
    · rw [if_neg c] at h
      refine J.iconst (v := (1 : Int32)) d_S_isSmallLetter_12 ki_1 ?_
      refine J.goto 17 d_S_isSmallLetter_13 rfl ?_
      cases h
      exact J.iret d_S_isSmallLetter_17 rfl rfl rfl

def lp_S_endOf_54 (k109 : Int32 → jMem → Option (Int32 × jMem)) : Nat → Int32 → jMem → Option (Int32 × jMem)
  | 0, _, _ => none
  | n + 1, v2, m =>
    if (m 24 1) ≤ v2 then
      k109 v2 m
    else
      jld 1 m 2 v2 fun x11 =>
      jbd (f_S_isDigit x11 m) fun x12 m13 =>
      if x12 = 0 then
        k109 v2 m13
      else
        lp_S_endOf_54 k109 n (v2 + (1 : Int32)) m13
def lp_S_endOf_16 (k109 : Int32 → jMem → Option (Int32 × jMem)) : Nat → Int32 → jMem → Option (Int32 × jMem)
  | 0, _, _ => none
  | n + 1, v2, m =>
    if (m 24 1) ≤ v2 then
      k109 v2 m
    else
      jld 1 m 2 v2 fun x16 =>
      jbd (f_S_isSmallLetter x16 m) fun x17 m18 =>
      if x17 = 0 then
        k109 v2 m18
      else
        lp_S_endOf_16 k109 n (v2 + (1 : Int32)) m18
def f_S_endOf (v1 : Int32) (m : jMem) : Option (Int32 × jMem) :=
  jld 1 m 2 v1 fun x1 =>
  jbd (f_S_isSmallLetter x1 m) fun x2 m3 =>
  if x2 = 0 then
    jld 1 m3 2 v1 fun x4 =>
    jbd (f_S_isDigit x4 m3) fun x5 m6 =>
    if x5 = 0 then
      if (m6 24 1) ≤ (v1 + (1 : Int32)) then
        some ((v1 + (1 : Int32)), m6)
      else
        jld 1 m6 2 v1 fun x7 =>
        jld 1 m6 2 (v1 + (1 : Int32)) fun x8 =>
        jbd (f_S_isOneSign x7 x8 m6) fun x9 m10 =>
        if x9 = 0 then
          some ((v1 + (1 : Int32)), m10)
        else
          some (((v1 + (1 : Int32)) + (1 : Int32)), m10)
    else
      lp_S_endOf_54 (fun w15 m14 =>
        some (w15, m14)) 5000 (v1 + (1 : Int32)) m6
  else
    lp_S_endOf_16 (fun w20 m19 =>
      some (w20, m19)) 5000 (v1 + (1 : Int32)) m3
theorem jlp_S_endOf_54 {G : jG} (hG : jFul G) (k109 : Int32 → jMem → Option (Int32 × jMem))
    (hk109 : ∀ (v2 : Int32) (m : jMem) (r : (Int32 × jMem)), k109 v2 m = some r → J G Y_S_endOf 109 [(2, .int v2)] [] m (jri r)) : ∀ (n : Nat) (v2 : Int32) (m : jMem) (r : (Int32 × jMem)), lp_S_endOf_54 k109 n v2 m = some r → J G Y_S_endOf 54 [(0, jr G 24), (2, .int v2)] [] m (jri r) := by
  intro n
  induction n with
  | zero => intro v2 m r h; unfold lp_S_endOf_54 at h; cases h
  | succ n ih =>
    intro v2 m r h
    unfold lp_S_endOf_54 at h
    refine J.iload_n 1 d_S_endOf_54 rfl rfl ?_
    refine J.aload_n 0 d_S_endOf_55 rfl rfl ?_
    refine J.getI hG d_S_endOf_56 fl_S_33 ck_24_1 ?_
    refine J.icmp_ge 109 d_S_endOf_59 rfl (fun c => ?_) (fun c => ?_)
    · rw [if_pos c] at h
      exact J.sub (ls' := [(2, .int v2)]) [1] rfl (hk109 v2 m _ h)
    · rw [if_neg c] at h
      refine J.aload_n 0 d_S_endOf_62 rfl rfl ?_
      refine J.getF (n := 2) hG d_S_endOf_63 fl_S_24 ck_24_0 rfl ?_
      refine J.iload_n 1 d_S_endOf_66 rfl rfl ?_
      obtain ⟨x11, ex11, g, h⟩ := jld_some h
      refine J.il hG d_S_endOf_67 g ex11 ?_
      refine J.nop (pc' := 68) rfl ?_
      obtain ⟨x12, m13, zm13, h⟩ := jbd_some h
      refine J.cSi Y_S_isDigit (As := [.int x11]) (rest := []) d_S_endOf_68 mi_S_isDigit ms_S_isDigit lk_S_40 ⟨rfl, rfl, Nat.le_of_ble_eq_true rfl⟩ (c_S_isDigit hG zm13) rfl (Nat.le_trans jcN (Nat.le_of_ble_eq_true rfl)) ?_
      refine J.if_eq 109 d_S_endOf_71 rfl (fun c => ?_) (fun c => ?_)
      · rw [if_pos c] at h
        exact J.sub (ls' := [(2, .int v2)]) [1] rfl (hk109 v2 m13 _ h)
      · rw [if_neg c] at h
        refine J.iinc 1 (v := (1 : Int32)) (lv := [(2, .int (v2 + (1 : Int32))), (0, jr G 24)]) d_S_endOf_74 rfl ki_1 (by decide) rfl ?_
        refine J.goto 54 d_S_endOf_77 rfl ?_
        exact J.sub (ls' := [(0, jr G 24), (2, .int (v2 + (1 : Int32)))]) [1, 0] rfl (ih (v2 + (1 : Int32)) m13 _ h)
theorem jlp_S_endOf_16 {G : jG} (hG : jFul G) (k109 : Int32 → jMem → Option (Int32 × jMem))
    (hk109 : ∀ (v2 : Int32) (m : jMem) (r : (Int32 × jMem)), k109 v2 m = some r → J G Y_S_endOf 109 [(2, .int v2)] [] m (jri r)) : ∀ (n : Nat) (v2 : Int32) (m : jMem) (r : (Int32 × jMem)), lp_S_endOf_16 k109 n v2 m = some r → J G Y_S_endOf 16 [(0, jr G 24), (2, .int v2)] [] m (jri r) := by
  intro n
  induction n with
  | zero => intro v2 m r h; unfold lp_S_endOf_16 at h; cases h
  | succ n ih =>
    intro v2 m r h
    unfold lp_S_endOf_16 at h
    refine J.iload_n 1 d_S_endOf_16 rfl rfl ?_
    refine J.aload_n 0 d_S_endOf_17 rfl rfl ?_
    refine J.getI hG d_S_endOf_18 fl_S_33 ck_24_1 ?_
    refine J.icmp_ge 109 d_S_endOf_21 rfl (fun c => ?_) (fun c => ?_)
    · rw [if_pos c] at h
      exact J.sub (ls' := [(2, .int v2)]) [1] rfl (hk109 v2 m _ h)
    · rw [if_neg c] at h
      refine J.aload_n 0 d_S_endOf_24 rfl rfl ?_
      refine J.getF (n := 2) hG d_S_endOf_25 fl_S_24 ck_24_0 rfl ?_
      refine J.iload_n 1 d_S_endOf_28 rfl rfl ?_
      obtain ⟨x16, ex16, g, h⟩ := jld_some h
      refine J.il hG d_S_endOf_29 g ex16 ?_
      refine J.nop (pc' := 30) rfl ?_
      obtain ⟨x17, m18, zm18, h⟩ := jbd_some h
      refine J.cSi Y_S_isSmallLetter (As := [.int x16]) (rest := []) d_S_endOf_30 mi_S_isSmallLetter ms_S_isSmallLetter lk_S_69 ⟨rfl, rfl, Nat.le_of_ble_eq_true rfl⟩ (c_S_isSmallLetter hG zm18) rfl (Nat.le_trans jcN (Nat.le_of_ble_eq_true rfl)) ?_
      refine J.if_eq 109 d_S_endOf_33 rfl (fun c => ?_) (fun c => ?_)
      · rw [if_pos c] at h
        exact J.sub (ls' := [(2, .int v2)]) [1] rfl (hk109 v2 m18 _ h)
      · rw [if_neg c] at h
        refine J.iinc 1 (v := (1 : Int32)) (lv := [(2, .int (v2 + (1 : Int32))), (0, jr G 24)]) d_S_endOf_36 rfl ki_1 (by decide) rfl ?_
        refine J.goto 16 d_S_endOf_39 rfl ?_
        exact J.sub (ls' := [(0, jr G 24), (2, .int (v2 + (1 : Int32)))]) [1, 0] rfl (ih (v2 + (1 : Int32)) m18 _ h)
theorem c_S_endOf {G : jG} (hG : jFul G) {v1 : Int32} {m : jMem} {r : (Int32 × jMem)} (h : f_S_endOf v1 m = some r) : jCt G Y_S_endOf [jr G 24, .int v1] m (jri r) := by
  refine jCt.ov (ls := [(0, jr G 24), (1, .int v1)]) mi_S_endOf (jAvR (jAvI jAvN)) (Nat.le_of_ble_eq_true rfl) ?_ ⟨rfl, rfl⟩
  unfold f_S_endOf at h
  refine J.iload_n 1 d_S_endOf_0 rfl rfl ?_
  refine J.iconst (v := (1 : Int32)) d_S_endOf_1 ki_1 ?_
  refine J.iadd d_S_endOf_2 ?_
  refine J.istore_n (lv := [(2, .int (v1 + (1 : Int32))), (0, jr G 24), (1, .int v1)]) d_S_endOf_3 rfl (by decide) rfl ?_
  refine J.aload_n 1 d_S_endOf_4 rfl rfl ?_
  refine J.getF (n := 2) hG d_S_endOf_5 fl_S_24 ck_24_0 rfl ?_
  refine J.iload_n 2 d_S_endOf_8 rfl rfl ?_
  obtain ⟨x1, ex1, g, h⟩ := jld_some h
  refine J.il hG d_S_endOf_9 g ex1 ?_
  refine J.nop (pc' := 10) rfl ?_
  obtain ⟨x2, m3, zm3, h⟩ := jbd_some h
  refine J.cSi Y_S_isSmallLetter (As := [.int x1]) (rest := []) d_S_endOf_10 mi_S_isSmallLetter ms_S_isSmallLetter lk_S_69 ⟨rfl, rfl, Nat.le_of_ble_eq_true rfl⟩ (c_S_isSmallLetter hG zm3) rfl (Nat.le_trans jcN (Nat.le_of_ble_eq_true rfl)) ?_
  refine J.if_eq 42 d_S_endOf_13 rfl (fun c => ?_) (fun c => ?_)
  · rw [if_pos c] at h
    refine J.aload_n 1 d_S_endOf_42 rfl rfl ?_
    refine J.getF (n := 2) hG d_S_endOf_43 fl_S_24 ck_24_0 rfl ?_
    refine J.iload_n 2 d_S_endOf_46 rfl rfl ?_
    obtain ⟨x4, ex4, g, h⟩ := jld_some h
    refine J.il hG d_S_endOf_47 g ex4 ?_
    obtain ⟨x5, m6, zm6, h⟩ := jbd_some h
    refine J.cSi Y_S_isDigit (As := [.int x4]) (rest := []) d_S_endOf_48 mi_S_isDigit ms_S_isDigit lk_S_40 ⟨rfl, rfl, Nat.le_of_ble_eq_true rfl⟩ (c_S_isDigit hG zm6) rfl (Nat.le_trans jcN (Nat.le_of_ble_eq_true rfl)) ?_
    refine J.if_eq 80 d_S_endOf_51 rfl (fun c => ?_) (fun c => ?_)
    · rw [if_pos c] at h
      refine J.iload_n 0 d_S_endOf_80 rfl rfl ?_
      refine J.aload_n 1 d_S_endOf_81 rfl rfl ?_
      refine J.getI hG d_S_endOf_82 fl_S_33 ck_24_1 ?_
      refine J.icmp_ge 109 d_S_endOf_85 rfl (fun c => ?_) (fun c => ?_)
      · rw [if_pos c] at h
        refine J.iload_n 0 d_S_endOf_109 rfl rfl ?_
        cases h
        exact J.iret d_S_endOf_110 rfl (vp_nar_int _) rfl
      · rw [if_neg c] at h
        refine J.aload_n 1 d_S_endOf_88 rfl rfl ?_
        refine J.getF (n := 2) hG d_S_endOf_89 fl_S_24 ck_24_0 rfl ?_
        refine J.iload_n 2 d_S_endOf_92 rfl rfl ?_
        obtain ⟨x7, ex7, g, h⟩ := jld_some h
        refine J.il hG d_S_endOf_93 g ex7 ?_
        refine J.nop (pc' := 94) rfl ?_
        refine J.aload_n 1 d_S_endOf_94 rfl rfl ?_
        refine J.getF (n := 2) hG d_S_endOf_95 fl_S_24 ck_24_0 rfl ?_
        refine J.iload_n 0 d_S_endOf_98 rfl rfl ?_
        obtain ⟨x8, ex8, g, h⟩ := jld_some h
        refine J.il hG d_S_endOf_99 g ex8 ?_
        obtain ⟨x9, m10, zm10, h⟩ := jbd_some h
        refine J.cSi Y_S_isOneSign (As := [.int x7, .int x8]) (rest := []) d_S_endOf_100 mi_S_isOneSign ms_S_isOneSign lk_S_72 ⟨rfl, rfl, Nat.le_of_ble_eq_true rfl⟩ (c_S_isOneSign hG zm10) rfl (Nat.le_trans jcN (Nat.le_of_ble_eq_true rfl)) ?_
        refine J.if_eq 109 d_S_endOf_103 rfl (fun c => ?_) (fun c => ?_)
        · rw [if_pos c] at h
          refine J.iload_n 0 d_S_endOf_109 rfl rfl ?_
          cases h
          exact J.iret d_S_endOf_110 rfl (vp_nar_int _) rfl
        · rw [if_neg c] at h
          refine J.iinc 0 (v := (1 : Int32)) (lv := [(2, .int ((v1 + (1 : Int32)) + (1 : Int32))), (0, jr G 24), (1, .int v1)]) d_S_endOf_106 rfl ki_1 (by decide) rfl ?_
          refine J.iload_n 0 d_S_endOf_109 rfl rfl ?_
          refine J.nop (pc' := 110) rfl ?_
          cases h
          exact J.iret d_S_endOf_110 rfl (vp_nar_int _) rfl
    · rw [if_neg c] at h
      refine J.sub (ls' := [(0, jr G 24), (2, .int (v1 + (1 : Int32)))]) [1, 0] rfl ?_
      refine jlp_S_endOf_54 hG _ ?_ _ (v1 + (1 : Int32)) m6 _ h
      intro w15 m14 r h
      refine J.iload_n 0 d_S_endOf_109 rfl rfl ?_
      cases h
      exact J.iret d_S_endOf_110 rfl (vp_nar_int _) rfl
  · rw [if_neg c] at h
    refine J.sub (ls' := [(0, jr G 24), (2, .int (v1 + (1 : Int32)))]) [1, 0] rfl ?_
    refine jlp_S_endOf_16 hG _ ?_ _ (v1 + (1 : Int32)) m3 _ h
    intro w20 m19 r h
    refine J.iload_n 0 d_S_endOf_109 rfl rfl ?_
    cases h
    exact J.iret d_S_endOf_110 rfl (vp_nar_int _) rfl

def f_S_put (v1 : Nat) (v2 : Int32) (v3 : Int32) (m : jMem) : Option (Unit × jMem) :=
  if (401 : Int32) ≤ (m 24 5) then
    some ((), m)
  else
    jgd (jtk v1) (jst 4 m 25 (m 24 5) (Int32.ofNat v1) fun m1 =>
    jst 1 m1 26 (m1 24 5) v2 fun m2 =>
    jst 1 m2 27 (m2 24 5) v3 fun m3 =>
    jpu m3 24 5 ((m3 24 5) + (1 : Int32)) fun m4 =>
    some ((), m4))
theorem c_S_put {G : jG} (hG : jFul G) {v1 : Nat} {v2 : Int32} {v3 : Int32} {m : jMem} {r : (Unit × jMem)} (h : f_S_put v1 v2 v3 m = some r) : jCt G Y_S_put [jr G 24, jr G v1, .int v2, .int v3] m (jrv r) := by
  refine jCt.ov (ls := [(0, jr G 24), (1, jr G v1), (2, .int v2), (3, .int v3)]) mi_S_put (jAvR (jAvR (jAvI (jAvI jAvN)))) (Nat.le_of_ble_eq_true rfl) ?_ ⟨rfl, rfl⟩
  unfold f_S_put at h
  refine J.aload_n 0 d_S_put_0 rfl rfl ?_
  refine J.getI hG d_S_put_1 fl_S_37 ck_24_5 ?_
  refine J.aload_n 0 d_S_put_4 rfl rfl ?_
  refine J.getF (n := 25) hG d_S_put_5 fl_S_11 ck_24_2 rfl ?_
  refine J.aln (v := (401 : Int32)) hG d_S_put_8 (Or.inr (Or.inr rfl)) rfl ?_
  refine J.icmp_ge 52 d_S_put_9 rfl (fun c => ?_) (fun c => ?_)
  · rw [if_pos c] at h
    cases h
    exact J.vret d_S_put_52 rfl rfl
  · rw [if_neg c] at h
    refine J.aload_n 0 d_S_put_12 rfl rfl ?_
    refine J.getF (n := 25) hG d_S_put_13 fl_S_11 ck_24_2 rfl ?_
    refine J.nop (pc' := 16) rfl ?_
    refine J.aload_n 0 d_S_put_16 rfl rfl ?_
    refine J.getI hG d_S_put_17 fl_S_37 ck_24_5 ?_
    refine J.aload_n 1 d_S_put_20 rfl rfl ?_
    obtain ⟨gt, h⟩ := jgd_some h
    obtain ⟨m1, hm1, g, h⟩ := jst_some h
    refine J.s4 hG d_S_put_21 g gt hm1 ?_
    refine J.aload_n 0 d_S_put_22 rfl rfl ?_
    refine J.getF (n := 26) hG d_S_put_23 fl_S_17 ck_24_3 rfl ?_
    refine J.aload_n 0 d_S_put_26 rfl rfl ?_
    refine J.getI hG d_S_put_27 fl_S_37 ck_24_5 ?_
    refine J.nop (pc' := 30) rfl ?_
    refine J.iload_n 2 d_S_put_30 rfl rfl ?_
    obtain ⟨m2, hm2, g, h⟩ := jst_some h
    refine J.is hG d_S_put_31 g hm2 ?_
    refine J.aload_n 0 d_S_put_32 rfl rfl ?_
    refine J.getF (n := 27) hG d_S_put_33 fl_S_21 ck_24_4 rfl ?_
    refine J.aload_n 0 d_S_put_36 rfl rfl ?_
    refine J.getI hG d_S_put_37 fl_S_37 ck_24_5 ?_
    refine J.iload_n 3 d_S_put_40 rfl rfl ?_
    obtain ⟨m3, hm3, g, h⟩ := jst_some h
    refine J.is hG d_S_put_41 g hm3 ?_
    refine J.nop (pc' := 42) rfl ?_
    refine J.aload_n 0 d_S_put_42 rfl rfl ?_
    refine J.dup d_S_put_43 (jr_cat _ _) ?_
    refine J.getI hG d_S_put_44 fl_S_37 ck_24_5 ?_
    refine J.iconst (v := (1 : Int32)) d_S_put_47 ki_1 ?_
    refine J.iadd d_S_put_48 ?_
    obtain ⟨m4, hm4, h⟩ := jpu_some h
    refine J.putI hG d_S_put_49 fl_S_37 fp_3_5 ck_24_5 hm4 ?_
    cases h
    exact J.vret d_S_put_52 rfl rfl

def lp_S_spells_15 (v1 : Nat) (v2 : Int32) (v3 : Int32) (k39 : jMem → Option (Int32 × jMem)) (k47 : jMem → Option (Int32 × jMem)) : Nat → Int32 → jMem → Option (Int32 × jMem)
  | 0, _, _ => none
  | n + 1, v4, m =>
    if v3 ≤ v4 then
      k47 m
    else
      jSC v1 (v4 - v2) fun x2 =>
      jld 1 m 2 v4 fun x3 =>
      if x2 = x3 then
        lp_S_spells_15 v1 v2 v3 k39 k47 n (v4 + (1 : Int32)) m
      else
        k39 m
def f_S_spells (v1 : Nat) (v2 : Int32) (v3 : Int32) (m : jMem) : Option (Int32 × jMem) :=
  jSL v1 fun x1 =>
  if x1 = (v3 - v2) then
    lp_S_spells_15 v1 v2 v3 (fun m4 =>
      some ((0 : Int32), m4)) (fun m5 =>
      some ((1 : Int32), m5)) 5000 v2 m
  else
    some ((0 : Int32), m)
theorem jlp_S_spells_15 {G : jG} (hG : jFul G) (v1 : Nat) (v2 : Int32) (v3 : Int32) (k39 : jMem → Option (Int32 × jMem)) (k47 : jMem → Option (Int32 × jMem))
    (hk39 : ∀ (m : jMem) (r : (Int32 × jMem)), k39 m = some r → J G Y_S_spells 39 [] [] m (jri r))
    (hk47 : ∀ (m : jMem) (r : (Int32 × jMem)), k47 m = some r → J G Y_S_spells 47 [] [] m (jri r)) : ∀ (n : Nat) (v4 : Int32) (m : jMem) (r : (Int32 × jMem)), lp_S_spells_15 v1 v2 v3 k39 k47 n v4 m = some r → J G Y_S_spells 15 [(0, jr G 24), (1, jr G v1), (2, .int v2), (3, .int v3), (4, .int v4)] [] m (jri r) := by
  intro n
  induction n with
  | zero => intro v4 m r h; unfold lp_S_spells_15 at h; cases h
  | succ n ih =>
    intro v4 m r h
    unfold lp_S_spells_15 at h
    refine J.iload 4 d_S_spells_15 rfl ?_
    refine J.iload_n 3 d_S_spells_17 rfl rfl ?_
    refine J.icmp_ge 47 d_S_spells_18 rfl (fun c => ?_) (fun c => ?_)
    · rw [if_pos c] at h
      exact J.sub (ls' := []) [] rfl (hk47  m _ h)
    · rw [if_neg c] at h
      refine J.aload_n 1 d_S_spells_21 rfl rfl ?_
      refine J.iload 4 d_S_spells_22 rfl ?_
      refine J.iload_n 2 d_S_spells_24 rfl rfl ?_
      refine J.isub d_S_spells_25 ?_
      obtain ⟨x2, ex2, g, h⟩ := jSC_some h
      refine J.cT Y_JS_charAt (As := [.int (v4 - v2)]) (rest := []) d_S_spells_26 mi_JS_charAt mv_JS_charAt wl_S_charAt ⟨rfl, rfl, Nat.le_of_ble_eq_true rfl⟩ rfl g.1 (c_JS_charAt g ex2) rfl (Nat.le_trans jcN (Nat.le_of_ble_eq_true rfl)) ?_
      refine J.nop (pc' := 29) rfl ?_
      refine J.aload_n 0 d_S_spells_29 rfl rfl ?_
      refine J.getF (n := 2) hG d_S_spells_30 fl_S_24 ck_24_0 rfl ?_
      refine J.iload 4 d_S_spells_33 rfl ?_
      obtain ⟨x3, ex3, g, h⟩ := jld_some h
      refine J.il hG d_S_spells_35 g ex3 ?_
      refine J.icmp_eq 41 d_S_spells_36 rfl (fun c => ?_) (fun c => ?_)
      · rw [if_pos c] at h
        refine J.iinc 4 (v := (1 : Int32)) (lv := [(4, .int (v4 + (1 : Int32))), (0, jr G 24), (1, jr G v1), (2, .int v2), (3, .int v3)]) d_S_spells_41 rfl ki_1 (by decide) rfl ?_
        refine J.goto 15 d_S_spells_44 rfl ?_
        exact J.sub (ls' := [(0, jr G 24), (1, jr G v1), (2, .int v2), (3, .int v3), (4, .int (v4 + (1 : Int32)))]) [1, 2, 3, 4, 0] rfl (ih (v4 + (1 : Int32)) m _ h)
      · rw [if_neg c] at h
        exact J.sub (ls' := []) [] rfl (hk39  m _ h)
theorem c_S_spells {G : jG} (hG : jFul G) {v1 : Nat} {v2 : Int32} {v3 : Int32} {m : jMem} {r : (Int32 × jMem)} (h : f_S_spells v1 v2 v3 m = some r) : jCt G Y_S_spells [jr G 24, jr G v1, .int v2, .int v3] m (jri r) := by
  refine jCt.ov (ls := [(0, jr G 24), (1, jr G v1), (2, .int v2), (3, .int v3)]) mi_S_spells (jAvR (jAvR (jAvI (jAvI jAvN)))) (Nat.le_of_ble_eq_true rfl) ?_ ⟨rfl, rfl⟩
  unfold f_S_spells at h
  refine J.aload_n 1 d_S_spells_0 rfl rfl ?_
  obtain ⟨x1, ex1, g, h⟩ := jSL_some h
  refine J.cT Y_JS_length (As := []) (rest := []) d_S_spells_1 mi_JS_length mv_JS_length wl_S_length ⟨rfl, rfl, Nat.le_of_ble_eq_true rfl⟩ rfl g (c_JS_length g ex1) rfl (Nat.le_trans jcN (Nat.le_of_ble_eq_true rfl)) ?_
  refine J.iload_n 3 d_S_spells_4 rfl rfl ?_
  refine J.iload_n 2 d_S_spells_5 rfl rfl ?_
  refine J.isub d_S_spells_6 ?_
  refine J.icmp_eq 12 d_S_spells_7 rfl (fun c => ?_) (fun c => ?_)
  · rw [if_pos c] at h
    refine J.iload_n 2 d_S_spells_12 rfl rfl ?_
    refine J.istore (lv := [(4, .int v2), (0, jr G 24), (1, jr G v1), (2, .int v2), (3, .int v3)]) d_S_spells_13 (by decide) rfl ?_
    refine J.sub (ls' := [(0, jr G 24), (1, jr G v1), (2, .int v2), (3, .int v3), (4, .int v2)]) [1, 2, 3, 4, 0] rfl ?_
    refine jlp_S_spells_15 hG v1 v2 v3 _ _ ?_ ?_ _ v2 m _ h
    · intro m4 r h
      refine J.iconst (v := (0 : Int32)) d_S_spells_39 ki_0 ?_
      cases h
      exact J.iret d_S_spells_40 rfl rfl rfl
    · intro m5 r h
      refine J.iconst (v := (1 : Int32)) d_S_spells_47 ki_1 ?_
      cases h
      exact J.iret d_S_spells_48 rfl rfl rfl
  · rw [if_neg c] at h
    refine J.iconst (v := (0 : Int32)) d_S_spells_10 ki_0 ?_
    cases h
    exact J.iret d_S_spells_11 rfl rfl rfl

def lp_S_spelled_11 (v1 : Int32) (v2 : Int32) (v4 : Int32) (k38 : Nat → jMem → Option (Nat × jMem)) (k47 : jMem → Option (Nat × jMem)) : Nat → Int32 → jMem → Option (Nat × jMem)
  | 0, _, _ => none
  | n + 1, v5, m =>
    if v4 ≤ v5 then
      k47 m
    else
      jL33 v5 fun q1 =>
      jgd (jtk q1) (
        jlt (jtkS q1) fun q2 =>
        jbd (f_S_spells q2 v1 v2 m) fun x3 m4 =>
        if x3 = 0 then
          lp_S_spelled_11 v1 v2 v4 k38 k47 n (v5 + (1 : Int32)) m4
        else
          k38 q1 m4)
def f_S_spelled (v1 : Int32) (v2 : Int32) (m : jMem) : Option (Nat × jMem) :=
  lp_S_spelled_11 v1 v2 (33 : Int32) (fun w6 m5 =>
    some (w6, m5)) (fun m7 =>
    some (1002, m7)) 5000 (0 : Int32) m
theorem jlp_S_spelled_11 {G : jG} (hG : jFul G) (v1 : Int32) (v2 : Int32) (v4 : Int32) (k38 : Nat → jMem → Option (Nat × jMem)) (k47 : jMem → Option (Nat × jMem))
    (hk38 : ∀ (v6 : Nat) (m : jMem) (r : (Nat × jMem)), k38 v6 m = some r → J G Y_S_spelled 38 [(6, jr G v6)] [] m (jrr G r))
    (hk47 : ∀ (m : jMem) (r : (Nat × jMem)), k47 m = some r → J G Y_S_spelled 47 [] [] m (jrr G r)) : ∀ (n : Nat) (v5 : Int32) (m : jMem) (r : (Nat × jMem)), lp_S_spelled_11 v1 v2 v4 k38 k47 n v5 m = some r → J G Y_S_spelled 11 [(0, jr G 24), (1, .int v1), (2, .int v2), (3, jr G 4001), (4, .int v4), (5, .int v5)] [] m (jrr G r) := by
  intro n
  induction n with
  | zero => intro v5 m r h; unfold lp_S_spelled_11 at h; cases h
  | succ n ih =>
    intro v5 m r h
    unfold lp_S_spelled_11 at h
    refine J.iload 5 d_S_spelled_11 rfl ?_
    refine J.iload 4 d_S_spelled_13 rfl ?_
    refine J.icmp_ge 47 d_S_spelled_15 rfl (fun c => ?_) (fun c => ?_)
    · rw [if_pos c] at h
      exact J.sub (ls' := []) [] rfl (hk47  m _ h)
    · rw [if_neg c] at h
      refine J.aload_n 3 d_S_spelled_18 rfl rfl ?_
      refine J.iload 5 d_S_spelled_19 rfl ?_
      obtain ⟨q1, eq1, g, h⟩ := jL33_some h
      refine J.eachld d_S_spelled_21 g eq1 ?_
      refine J.astore (lv := [(6, jr G q1), (0, jr G 24), (1, .int v1), (2, .int v2), (3, jr G 4001), (4, .int v4), (5, .int v5)]) d_S_spelled_22 (by decide) rfl ?_
      refine J.aload_n 1 d_S_spelled_24 rfl rfl ?_
      refine J.nop (pc' := 25) rfl ?_
      refine J.aload 0 d_S_spelled_25 rfl ?_
      obtain ⟨g, h⟩ := jgd_some h
      obtain ⟨q2, eq2, h⟩ := jlt_some h
      refine J.gkS d_S_spelled_27 g (Or.inr ⟨"CitingLetters", jn_8 224 rfl rfl⟩) eq2 ?_
      refine J.iload_n 2 d_S_spelled_30 rfl rfl ?_
      refine J.iload_n 3 d_S_spelled_31 rfl rfl ?_
      obtain ⟨x3, m4, zm4, h⟩ := jbd_some h
      refine J.cVi Y_S_spells (As := [jr G q2, .int v1, .int v2]) (rest := []) hG d_S_spelled_32 mi_S_spells mv_S_spells lk_S_83 ⟨rfl, rfl, Nat.le_of_ble_eq_true rfl⟩ cq_24 cc_3 (c_S_spells hG zm4) rfl (Nat.le_trans jcN (Nat.le_of_ble_eq_true rfl)) ?_
      refine J.if_eq 41 d_S_spelled_35 rfl (fun c => ?_) (fun c => ?_)
      · rw [if_pos c] at h
        refine J.iinc 6 (v := (1 : Int32)) (lv := [(5, .int (v5 + (1 : Int32))), (6, jr G q1), (0, jr G 24), (1, .int v1), (2, .int v2), (3, jr G 4001), (4, .int v4)]) d_S_spelled_41 rfl ki_1 (by decide) rfl ?_
        refine J.goto 11 d_S_spelled_44 rfl ?_
        exact J.sub (ls' := [(0, jr G 24), (1, .int v1), (2, .int v2), (3, jr G 4001), (4, .int v4), (5, .int (v5 + (1 : Int32)))]) [2, 3, 4, 5, 6, 0] rfl (ih (v5 + (1 : Int32)) m4 _ h)
      · rw [if_neg c] at h
        exact J.sub (ls' := [(6, jr G q1)]) [0] rfl (hk38 q1 m4 _ h)
theorem c_S_spelled {G : jG} (hG : jFul G) {v1 : Int32} {v2 : Int32} {m : jMem} {r : (Nat × jMem)} (h : f_S_spelled v1 v2 m = some r) : jCt G Y_S_spelled [jr G 24, .int v1, .int v2] m (jrr G r) := by
  refine jCt.ov (ls := [(0, jr G 24), (1, .int v1), (2, .int v2)]) mi_S_spelled (jAvR (jAvI (jAvI jAvN))) (Nat.le_of_ble_eq_true rfl) ?_ ⟨rfl, rfl⟩
  unfold f_S_spelled at h
  refine J.geach d_S_spelled_0 wn_each ?_
  refine J.astore_n (lv := [(3, jr G 4001), (0, jr G 24), (1, .int v1), (2, .int v2)]) d_S_spelled_3 rfl (by decide) rfl ?_
  refine J.aload_n 0 d_S_spelled_4 rfl rfl ?_
  refine J.eachlen d_S_spelled_5 ?_
  refine J.istore (lv := [(4, .int (33 : Int32)), (3, jr G 4001), (0, jr G 24), (1, .int v1), (2, .int v2)]) d_S_spelled_6 (by decide) rfl ?_
  refine J.iconst (v := (0 : Int32)) d_S_spelled_8 ki_0 ?_
  refine J.istore (lv := [(5, .int (0 : Int32)), (4, .int (33 : Int32)), (3, jr G 4001), (0, jr G 24), (1, .int v1), (2, .int v2)]) d_S_spelled_9 (by decide) rfl ?_
  refine J.sub (ls' := [(0, jr G 24), (1, .int v1), (2, .int v2), (3, jr G 4001), (4, .int (33 : Int32)), (5, .int (0 : Int32))]) [3, 4, 5, 2, 1, 0] rfl ?_
  refine jlp_S_spelled_11 hG v1 v2 (33 : Int32) _ _ ?_ ?_ _ (0 : Int32) m _ h
  · intro w6 m5 r h
    refine J.aload 0 d_S_spelled_38 rfl ?_
    cases h
    exact J.aret d_S_spelled_40 rfl rfl
  · intro m7 r h
    refine J.gets (i := 1) (nm := "BAD") d_S_spelled_47 (by decide) rfl (jt_3 66 rfl rfl) ?_
    cases h
    exact J.aret d_S_spelled_50 rfl rfl

def lp_S_worthOf_4 (k51 : Int32 → jMem → Option (Int32 × jMem)) : Nat → Int32 → Int32 → jMem → Option (Int32 × jMem)
  | 0, _, _, _ => none
  | n + 1, v2, v3, m =>
    if (m 24 1) ≤ v3 then
      k51 v2 m
    else
      jld 1 m 2 v3 fun x1 =>
      jbd (f_S_isDigit x1 m) fun x2 m3 =>
      if x2 = 0 then
        k51 v2 m3
      else
        jld 1 m3 2 v3 fun x4 =>
        lp_S_worthOf_4 k51 n (jmin (1000 : Int32) (((v2 * (10 : Int32)) + x4) - (48 : Int32))) (v3 + (1 : Int32)) m3
def f_S_worthOf (v1 : Int32) (m : jMem) : Option (Int32 × jMem) :=
  lp_S_worthOf_4 (fun w6 m5 =>
    some (w6, m5)) 5000 (0 : Int32) v1 m
theorem jlp_S_worthOf_4 {G : jG} (hG : jFul G) (k51 : Int32 → jMem → Option (Int32 × jMem))
    (hk51 : ∀ (v2 : Int32) (m : jMem) (r : (Int32 × jMem)), k51 v2 m = some r → J G Y_S_worthOf 51 [(2, .int v2)] [] m (jri r)) : ∀ (n : Nat) (v2 : Int32) (v3 : Int32) (m : jMem) (r : (Int32 × jMem)), lp_S_worthOf_4 k51 n v2 v3 m = some r → J G Y_S_worthOf 4 [(0, jr G 24), (2, .int v2), (3, .int v3)] [] m (jri r) := by
  intro n
  induction n with
  | zero => intro v2 v3 m r h; unfold lp_S_worthOf_4 at h; cases h
  | succ n ih =>
    intro v2 v3 m r h
    unfold lp_S_worthOf_4 at h
    refine J.iload_n 2 d_S_worthOf_4 rfl rfl ?_
    refine J.aload_n 0 d_S_worthOf_5 rfl rfl ?_
    refine J.getI hG d_S_worthOf_6 fl_S_33 ck_24_1 ?_
    refine J.icmp_ge 51 d_S_worthOf_9 rfl (fun c => ?_) (fun c => ?_)
    · rw [if_pos c] at h
      exact J.sub (ls' := [(2, .int v2)]) [1] rfl (hk51 v2 m _ h)
    · rw [if_neg c] at h
      refine J.aload_n 0 d_S_worthOf_12 rfl rfl ?_
      refine J.getF (n := 2) hG d_S_worthOf_13 fl_S_24 ck_24_0 rfl ?_
      refine J.iload_n 2 d_S_worthOf_16 rfl rfl ?_
      obtain ⟨x1, ex1, g, h⟩ := jld_some h
      refine J.il hG d_S_worthOf_17 g ex1 ?_
      refine J.nop (pc' := 18) rfl ?_
      obtain ⟨x2, m3, zm3, h⟩ := jbd_some h
      refine J.cSi Y_S_isDigit (As := [.int x1]) (rest := []) d_S_worthOf_18 mi_S_isDigit ms_S_isDigit lk_S_40 ⟨rfl, rfl, Nat.le_of_ble_eq_true rfl⟩ (c_S_isDigit hG zm3) rfl (Nat.le_trans jcN (Nat.le_of_ble_eq_true rfl)) ?_
      refine J.if_eq 51 d_S_worthOf_21 rfl (fun c => ?_) (fun c => ?_)
      · rw [if_pos c] at h
        exact J.sub (ls' := [(2, .int v2)]) [1] rfl (hk51 v2 m3 _ h)
      · rw [if_neg c] at h
        refine J.sipush (v := (1000 : Int32)) d_S_worthOf_24 ks_1000 ?_
        refine J.iload_n 1 d_S_worthOf_27 rfl rfl ?_
        refine J.bipush (v := (10 : Int32)) d_S_worthOf_28 kb_10 ?_
        refine J.imul d_S_worthOf_30 ?_
        refine J.aload_n 0 d_S_worthOf_31 rfl rfl ?_
        refine J.getF (n := 2) hG d_S_worthOf_32 fl_S_24 ck_24_0 rfl ?_
        refine J.nop (pc' := 35) rfl ?_
        refine J.iload_n 2 d_S_worthOf_35 rfl rfl ?_
        obtain ⟨x4, ex4, g, h⟩ := jld_some h
        refine J.il hG d_S_worthOf_36 g ex4 ?_
        refine J.iadd d_S_worthOf_37 ?_
        refine J.bipush (v := (48 : Int32)) d_S_worthOf_38 kb_48 ?_
        refine J.isub d_S_worthOf_40 ?_
        refine J.mn d_S_worthOf_41 (jt_2 222 rfl rfl) (jt_2 223 rfl rfl) (jt_1 14 rfl rfl) (jt_2 224 rfl rfl) (Nat.le_trans jcN (Nat.le_of_ble_eq_true rfl)) ?_
        refine J.istore_n (lv := [(2, .int (jmin (1000 : Int32) (((v2 * (10 : Int32)) + x4) - (48 : Int32)))), (0, jr G 24), (3, .int v3)]) d_S_worthOf_44 rfl (by decide) rfl ?_
        refine J.iinc 2 (v := (1 : Int32)) (lv := [(3, .int (v3 + (1 : Int32))), (2, .int (jmin (1000 : Int32) (((v2 * (10 : Int32)) + x4) - (48 : Int32)))), (0, jr G 24)]) d_S_worthOf_45 rfl ki_1 (by decide) rfl ?_
        refine J.nop (pc' := 48) rfl ?_
        refine J.goto 4 d_S_worthOf_48 rfl ?_
        exact J.sub (ls' := [(0, jr G 24), (2, .int (jmin (1000 : Int32) (((v2 * (10 : Int32)) + x4) - (48 : Int32)))), (3, .int (v3 + (1 : Int32)))]) [2, 1, 0] rfl (ih (jmin (1000 : Int32) (((v2 * (10 : Int32)) + x4) - (48 : Int32))) (v3 + (1 : Int32)) m3 _ h)
theorem c_S_worthOf {G : jG} (hG : jFul G) {v1 : Int32} {m : jMem} {r : (Int32 × jMem)} (h : f_S_worthOf v1 m = some r) : jCt G Y_S_worthOf [jr G 24, .int v1] m (jri r) := by
  refine jCt.ov (ls := [(0, jr G 24), (1, .int v1)]) mi_S_worthOf (jAvR (jAvI jAvN)) (Nat.le_of_ble_eq_true rfl) ?_ ⟨rfl, rfl⟩
  unfold f_S_worthOf at h
  refine J.iconst (v := (0 : Int32)) d_S_worthOf_0 ki_0 ?_
  refine J.istore_n (lv := [(2, .int (0 : Int32)), (0, jr G 24), (1, .int v1)]) d_S_worthOf_1 rfl (by decide) rfl ?_
  refine J.iload_n 2 d_S_worthOf_2 rfl rfl ?_
  refine J.istore_n (lv := [(3, .int v1), (2, .int (0 : Int32)), (0, jr G 24), (1, .int v1)]) d_S_worthOf_3 rfl (by decide) rfl ?_
  refine J.sub (ls' := [(0, jr G 24), (2, .int (0 : Int32)), (3, .int v1)]) [2, 1, 0] rfl ?_
  refine jlp_S_worthOf_4 hG _ ?_ _ (0 : Int32) v1 m _ h
  intro w6 m5 r h
  refine J.iload_n 0 d_S_worthOf_51 rfl rfl ?_
  cases h
  exact J.iret d_S_worthOf_52 rfl (vp_nar_int _) rfl

def lp_S_cut_20 (k109 : jMem → Option (Unit × jMem)) : Nat → Int32 → jMem → Option (Unit × jMem)
  | 0, _, _ => none
  | n + 1, v2, m =>
    if (m 24 1) ≤ v2 then
      k109 m
    else
      jld 1 m 2 v2 fun x3 =>
      jbd (f_S_isDigit x3 m) fun x4 m5 =>
      if x4 = 0 then
        jld 1 m5 2 v2 fun x6 =>
        if x6 = (10 : Int32) then
          jbd (f_S_endOf v2 m5) fun x7 m8 =>
          lp_S_cut_20 k109 n (jmax (v2 + (1 : Int32)) x7) m8
        else
          jld 1 m5 2 v2 fun x9 =>
          if x9 = (32 : Int32) then
            jbd (f_S_endOf v2 m5) fun x10 m11 =>
            lp_S_cut_20 k109 n (jmax (v2 + (1 : Int32)) x10) m11
          else
            jbd (f_S_endOf v2 m5) fun x12 m13 =>
            jbd (f_S_spelled v2 x12 m13) fun q14 m15 =>
            jbd (f_S_put q14 v2 (0 : Int32) m15) fun u16 m17 =>
            jbd (f_S_endOf v2 m17) fun x18 m19 =>
            lp_S_cut_20 k109 n (jmax (v2 + (1 : Int32)) x18) m19
      else
        jbd (f_S_worthOf v2 m5) fun x20 m21 =>
        jbd (f_S_put 1003 v2 x20 m21) fun u22 m23 =>
        jbd (f_S_endOf v2 m23) fun x24 m25 =>
        lp_S_cut_20 k109 n (jmax (v2 + (1 : Int32)) x24) m25
def f_S_cut (v1 : Int32) (m : jMem) : Option (Unit × jMem) :=
  jpu m 24 1 (jmin v1 (400 : Int32)) fun m1 =>
  jpu m1 24 5 (0 : Int32) fun m2 =>
  lp_S_cut_20 (fun m26 =>
    jbd (f_S_put 1001 (m26 24 1) (0 : Int32) m26) fun u27 m28 =>
    some ((), m28)) 5000 (0 : Int32) m2
theorem jlp_S_cut_20 {G : jG} (hG : jFul G) (k109 : jMem → Option (Unit × jMem))
    (hk109 : ∀ (m : jMem) (r : (Unit × jMem)), k109 m = some r → J G Y_S_cut 109 [(0, jr G 24)] [] m (jrv r)) : ∀ (n : Nat) (v2 : Int32) (m : jMem) (r : (Unit × jMem)), lp_S_cut_20 k109 n v2 m = some r → J G Y_S_cut 20 [(0, jr G 24), (2, .int v2)] [] m (jrv r) := by
  intro n
  induction n with
  | zero => intro v2 m r h; unfold lp_S_cut_20 at h; cases h
  | succ n ih =>
    intro v2 m r h
    unfold lp_S_cut_20 at h
    refine J.iload_n 1 d_S_cut_20 rfl rfl ?_
    refine J.aload_n 0 d_S_cut_21 rfl rfl ?_
    refine J.getI hG d_S_cut_22 fl_S_33 ck_24_1 ?_
    refine J.icmp_ge 109 d_S_cut_25 rfl (fun c => ?_) (fun c => ?_)
    · rw [if_pos c] at h
      exact J.sub (ls' := [(0, jr G 24)]) [0] rfl (hk109  m _ h)
    · rw [if_neg c] at h
      refine J.aload_n 0 d_S_cut_28 rfl rfl ?_
      refine J.getF (n := 2) hG d_S_cut_29 fl_S_24 ck_24_0 rfl ?_
      refine J.iload_n 1 d_S_cut_32 rfl rfl ?_
      obtain ⟨x3, ex3, g, h⟩ := jld_some h
      refine J.il hG d_S_cut_33 g ex3 ?_
      refine J.nop (pc' := 34) rfl ?_
      obtain ⟨x4, m5, zm5, h⟩ := jbd_some h
      refine J.cSi Y_S_isDigit (As := [.int x3]) (rest := []) d_S_cut_34 mi_S_isDigit ms_S_isDigit lk_S_40 ⟨rfl, rfl, Nat.le_of_ble_eq_true rfl⟩ (c_S_isDigit hG zm5) rfl (Nat.le_trans jcN (Nat.le_of_ble_eq_true rfl)) ?_
      refine J.if_eq 56 d_S_cut_37 rfl (fun c => ?_) (fun c => ?_)
      · rw [if_pos c] at h
        refine J.aload_n 0 d_S_cut_56 rfl rfl ?_
        refine J.getF (n := 2) hG d_S_cut_57 fl_S_24 ck_24_0 rfl ?_
        refine J.iload_n 1 d_S_cut_60 rfl rfl ?_
        obtain ⟨x6, ex6, g, h⟩ := jld_some h
        refine J.il hG d_S_cut_61 g ex6 ?_
        refine J.bipush (v := (10 : Int32)) d_S_cut_62 kb_10 ?_
        refine J.icmp_eq 94 d_S_cut_64 rfl (fun c => ?_) (fun c => ?_)
        · rw [if_pos c] at h
          refine J.iload_n 1 d_S_cut_94 rfl rfl ?_
          refine J.iconst (v := (1 : Int32)) d_S_cut_95 ki_1 ?_
          refine J.iadd d_S_cut_96 ?_
          refine J.aload_n 0 d_S_cut_97 rfl rfl ?_
          refine J.iload_n 1 d_S_cut_98 rfl rfl ?_
          obtain ⟨x7, m8, zm8, h⟩ := jbd_some h
          refine J.cVi Y_S_endOf (As := [.int v2]) (rest := [.int (v2 + (1 : Int32))]) hG d_S_cut_99 mi_S_endOf mv_S_endOf lk_S_56 ⟨rfl, rfl, Nat.le_of_ble_eq_true rfl⟩ cq_24 cc_3 (c_S_endOf hG zm8) rfl (Nat.le_trans (jcI jcN) (Nat.le_of_ble_eq_true rfl)) ?_
          refine J.mx d_S_cut_102 (jt_3 68 rfl rfl) (jt_3 69 rfl rfl) (jt_1 14 rfl rfl) (jt_3 70 rfl rfl) (Nat.le_trans jcN (Nat.le_of_ble_eq_true rfl)) ?_
          refine J.istore_n (lv := [(2, .int (jmax (v2 + (1 : Int32)) x7)), (0, jr G 24)]) d_S_cut_105 rfl (by decide) rfl ?_
          refine J.nop (pc' := 106) rfl ?_
          refine J.goto 20 d_S_cut_106 rfl ?_
          exact J.sub (ls' := [(0, jr G 24), (2, .int (jmax (v2 + (1 : Int32)) x7))]) [1, 0] rfl (ih (jmax (v2 + (1 : Int32)) x7) m8 _ h)
        · rw [if_neg c] at h
          refine J.aload_n 0 d_S_cut_67 rfl rfl ?_
          refine J.getF (n := 2) hG d_S_cut_68 fl_S_24 ck_24_0 rfl ?_
          refine J.nop (pc' := 71) rfl ?_
          refine J.iload_n 1 d_S_cut_71 rfl rfl ?_
          obtain ⟨x9, ex9, g, h⟩ := jld_some h
          refine J.il hG d_S_cut_72 g ex9 ?_
          refine J.bipush (v := (32 : Int32)) d_S_cut_73 kb_32 ?_
          refine J.icmp_eq 94 d_S_cut_75 rfl (fun c => ?_) (fun c => ?_)
          · rw [if_pos c] at h
            refine J.iload_n 1 d_S_cut_94 rfl rfl ?_
            refine J.iconst (v := (1 : Int32)) d_S_cut_95 ki_1 ?_
            refine J.iadd d_S_cut_96 ?_
            refine J.aload_n 0 d_S_cut_97 rfl rfl ?_
            refine J.iload_n 1 d_S_cut_98 rfl rfl ?_
            obtain ⟨x10, m11, zm11, h⟩ := jbd_some h
            refine J.cVi Y_S_endOf (As := [.int v2]) (rest := [.int (v2 + (1 : Int32))]) hG d_S_cut_99 mi_S_endOf mv_S_endOf lk_S_56 ⟨rfl, rfl, Nat.le_of_ble_eq_true rfl⟩ cq_24 cc_3 (c_S_endOf hG zm11) rfl (Nat.le_trans (jcI jcN) (Nat.le_of_ble_eq_true rfl)) ?_
            refine J.mx d_S_cut_102 (jt_3 68 rfl rfl) (jt_3 69 rfl rfl) (jt_1 14 rfl rfl) (jt_3 70 rfl rfl) (Nat.le_trans jcN (Nat.le_of_ble_eq_true rfl)) ?_
            refine J.istore_n (lv := [(2, .int (jmax (v2 + (1 : Int32)) x10)), (0, jr G 24)]) d_S_cut_105 rfl (by decide) rfl ?_
            refine J.nop (pc' := 106) rfl ?_
            refine J.goto 20 d_S_cut_106 rfl ?_
            exact J.sub (ls' := [(0, jr G 24), (2, .int (jmax (v2 + (1 : Int32)) x10))]) [1, 0] rfl (ih (jmax (v2 + (1 : Int32)) x10) m11 _ h)
          · rw [if_neg c] at h
            refine J.aload_n 0 d_S_cut_78 rfl rfl ?_
            refine J.aload_n 0 d_S_cut_79 rfl rfl ?_
            refine J.iload_n 1 d_S_cut_80 rfl rfl ?_
            refine J.aload_n 0 d_S_cut_81 rfl rfl ?_
            refine J.nop (pc' := 82) rfl ?_
            refine J.iload_n 1 d_S_cut_82 rfl rfl ?_
            obtain ⟨x12, m13, zm13, h⟩ := jbd_some h
            refine J.cVi Y_S_endOf (As := [.int v2]) (rest := [.int v2, jr G 24, jr G 24]) hG d_S_cut_83 mi_S_endOf mv_S_endOf lk_S_56 ⟨rfl, rfl, Nat.le_of_ble_eq_true rfl⟩ cq_24 cc_3 (c_S_endOf hG zm13) rfl (Nat.le_trans (jcI (jcR (jcR jcN))) (Nat.le_of_ble_eq_true rfl)) ?_
            obtain ⟨q14, m15, zm15, h⟩ := jbd_some h
            refine J.cVr Y_S_spelled (As := [.int v2, .int x12]) (rest := [jr G 24]) hG d_S_cut_86 mi_S_spelled mv_S_spelled lk_S_59 ⟨rfl, rfl, Nat.le_of_ble_eq_true rfl⟩ cq_24 cc_3 (c_S_spelled hG zm15) rfl (Nat.le_trans (jcR jcN) (Nat.le_of_ble_eq_true rfl)) ?_
            refine J.iload_n 1 d_S_cut_89 rfl rfl ?_
            refine J.iconst (v := (0 : Int32)) d_S_cut_90 ki_0 ?_
            obtain ⟨u16, m17, zm17, h⟩ := jbd_some h
            refine J.cVv Y_S_put (As := [jr G q14, .int v2, .int (0 : Int32)]) (rest := []) hG d_S_cut_91 mi_S_put mv_S_put lk_S_52 ⟨rfl, rfl, Nat.le_of_ble_eq_true rfl⟩ cq_24 cc_3 (c_S_put hG zm17) rfl (Nat.le_trans jcN (Nat.le_of_ble_eq_true rfl)) ?_
            refine J.iload_n 1 d_S_cut_94 rfl rfl ?_
            refine J.iconst (v := (1 : Int32)) d_S_cut_95 ki_1 ?_
            refine J.nop (pc' := 96) rfl ?_
            refine J.iadd d_S_cut_96 ?_
            refine J.aload_n 0 d_S_cut_97 rfl rfl ?_
            refine J.iload_n 1 d_S_cut_98 rfl rfl ?_
            obtain ⟨x18, m19, zm19, h⟩ := jbd_some h
            refine J.cVi Y_S_endOf (As := [.int v2]) (rest := [.int (v2 + (1 : Int32))]) hG d_S_cut_99 mi_S_endOf mv_S_endOf lk_S_56 ⟨rfl, rfl, Nat.le_of_ble_eq_true rfl⟩ cq_24 cc_3 (c_S_endOf hG zm19) rfl (Nat.le_trans (jcI jcN) (Nat.le_of_ble_eq_true rfl)) ?_
            refine J.mx d_S_cut_102 (jt_3 68 rfl rfl) (jt_3 69 rfl rfl) (jt_1 14 rfl rfl) (jt_3 70 rfl rfl) (Nat.le_trans jcN (Nat.le_of_ble_eq_true rfl)) ?_
            refine J.istore_n (lv := [(2, .int (jmax (v2 + (1 : Int32)) x18)), (0, jr G 24)]) d_S_cut_105 rfl (by decide) rfl ?_
            refine J.goto 20 d_S_cut_106 rfl ?_
            exact J.sub (ls' := [(0, jr G 24), (2, .int (jmax (v2 + (1 : Int32)) x18))]) [1, 0] rfl (ih (jmax (v2 + (1 : Int32)) x18) m19 _ h)
      · rw [if_neg c] at h
        refine J.aload_n 0 d_S_cut_40 rfl rfl ?_
        refine J.gets (i := 2) (nm := "NUMBER") d_S_cut_41 (by decide) rfl (jt_2 228 rfl rfl) ?_
        refine J.iload_n 1 d_S_cut_44 rfl rfl ?_
        refine J.aload_n 0 d_S_cut_45 rfl rfl ?_
        refine J.iload_n 1 d_S_cut_46 rfl rfl ?_
        obtain ⟨x20, m21, zm21, h⟩ := jbd_some h
        refine J.cVi Y_S_worthOf (As := [.int v2]) (rest := [.int v2, jr G 1003, jr G 24]) hG d_S_cut_47 mi_S_worthOf mv_S_worthOf lk_S_48 ⟨rfl, rfl, Nat.le_of_ble_eq_true rfl⟩ cq_24 cc_3 (c_S_worthOf hG zm21) rfl (Nat.le_trans (jcI (jcR (jcR jcN))) (Nat.le_of_ble_eq_true rfl)) ?_
        refine J.nop (pc' := 50) rfl ?_
        obtain ⟨u22, m23, zm23, h⟩ := jbd_some h
        refine J.cVv Y_S_put (As := [jr G 1003, .int v2, .int x20]) (rest := []) hG d_S_cut_50 mi_S_put mv_S_put lk_S_52 ⟨rfl, rfl, Nat.le_of_ble_eq_true rfl⟩ cq_24 cc_3 (c_S_put hG zm23) rfl (Nat.le_trans jcN (Nat.le_of_ble_eq_true rfl)) ?_
        refine J.goto 94 d_S_cut_53 rfl ?_
        refine J.iload_n 1 d_S_cut_94 rfl rfl ?_
        refine J.iconst (v := (1 : Int32)) d_S_cut_95 ki_1 ?_
        refine J.iadd d_S_cut_96 ?_
        refine J.aload_n 0 d_S_cut_97 rfl rfl ?_
        refine J.iload_n 1 d_S_cut_98 rfl rfl ?_
        obtain ⟨x24, m25, zm25, h⟩ := jbd_some h
        refine J.cVi Y_S_endOf (As := [.int v2]) (rest := [.int (v2 + (1 : Int32))]) hG d_S_cut_99 mi_S_endOf mv_S_endOf lk_S_56 ⟨rfl, rfl, Nat.le_of_ble_eq_true rfl⟩ cq_24 cc_3 (c_S_endOf hG zm25) rfl (Nat.le_trans (jcI jcN) (Nat.le_of_ble_eq_true rfl)) ?_
        refine J.mx d_S_cut_102 (jt_3 68 rfl rfl) (jt_3 69 rfl rfl) (jt_1 14 rfl rfl) (jt_3 70 rfl rfl) (Nat.le_trans jcN (Nat.le_of_ble_eq_true rfl)) ?_
        refine J.istore_n (lv := [(2, .int (jmax (v2 + (1 : Int32)) x24)), (0, jr G 24)]) d_S_cut_105 rfl (by decide) rfl ?_
        refine J.nop (pc' := 106) rfl ?_
        refine J.goto 20 d_S_cut_106 rfl ?_
        exact J.sub (ls' := [(0, jr G 24), (2, .int (jmax (v2 + (1 : Int32)) x24))]) [1, 0] rfl (ih (jmax (v2 + (1 : Int32)) x24) m25 _ h)
theorem c_S_cut {G : jG} (hG : jFul G) {v1 : Int32} {m : jMem} {r : (Unit × jMem)} (h : f_S_cut v1 m = some r) : jCt G Y_S_cut [jr G 24, .int v1] m (jrv r) := by
  refine jCt.ov (ls := [(0, jr G 24), (1, .int v1)]) mi_S_cut (jAvR (jAvI jAvN)) (Nat.le_of_ble_eq_true rfl) ?_ ⟨rfl, rfl⟩
  unfold f_S_cut at h
  refine J.aload_n 0 d_S_cut_0 rfl rfl ?_
  refine J.iload_n 1 d_S_cut_1 rfl rfl ?_
  refine J.aload_n 0 d_S_cut_2 rfl rfl ?_
  refine J.getF (n := 2) hG d_S_cut_3 fl_S_24 ck_24_0 rfl ?_
  refine J.aln (v := (400 : Int32)) hG d_S_cut_6 (Or.inl rfl) rfl ?_
  refine J.mn d_S_cut_7 (jt_2 222 rfl rfl) (jt_2 223 rfl rfl) (jt_1 14 rfl rfl) (jt_2 224 rfl rfl) (Nat.le_trans (jcR jcN) (Nat.le_of_ble_eq_true rfl)) ?_
  obtain ⟨m1, hm1, h⟩ := jpu_some h
  refine J.putI hG d_S_cut_10 fl_S_33 fp_3_1 ck_24_1 hm1 ?_
  refine J.aload_n 0 d_S_cut_13 rfl rfl ?_
  refine J.nop (pc' := 14) rfl ?_
  refine J.iconst (v := (0 : Int32)) d_S_cut_14 ki_0 ?_
  obtain ⟨m2, hm2, h⟩ := jpu_some h
  refine J.putI hG d_S_cut_15 fl_S_37 fp_3_5 ck_24_5 hm2 ?_
  refine J.iconst (v := (0 : Int32)) d_S_cut_18 ki_0 ?_
  refine J.istore_n (lv := [(2, .int (0 : Int32)), (0, jr G 24), (1, .int v1)]) d_S_cut_19 rfl (by decide) rfl ?_
  refine J.sub (ls' := [(0, jr G 24), (2, .int (0 : Int32))]) [1, 0] rfl ?_
  refine jlp_S_cut_20 hG _ ?_ _ (0 : Int32) m2 _ h
  intro m26 r h
  refine J.aload_n 0 d_S_cut_109 rfl rfl ?_
  refine J.gets (i := 0) (nm := "END") d_S_cut_110 (by decide) rfl (jt_3 71 rfl rfl) ?_
  refine J.aload_n 0 d_S_cut_113 rfl rfl ?_
  refine J.getI hG d_S_cut_114 fl_S_33 ck_24_1 ?_
  refine J.iconst (v := (0 : Int32)) d_S_cut_117 ki_0 ?_
  obtain ⟨u27, m28, zm28, h⟩ := jbd_some h
  refine J.cVv Y_S_put (As := [jr G 1001, .int (m26 24 1), .int (0 : Int32)]) (rest := []) hG d_S_cut_118 mi_S_put mv_S_put lk_S_52 ⟨rfl, rfl, Nat.le_of_ble_eq_true rfl⟩ cq_24 cc_3 (c_S_put hG zm28) rfl (Nat.le_trans jcN (Nat.le_of_ble_eq_true rfl)) ?_
  cases h
  exact J.vret d_S_cut_121 rfl rfl

def f_C_bit (v0 : Int32) (m : jMem) : Option (Int32 × jMem) :=
  some (((1 : Int32) <<< (v0 &&& 31)), m)
theorem c_C_bit {G : jG} (hG : jFul G) {v0 : Int32} {m : jMem} {r : (Int32 × jMem)} (h : f_C_bit v0 m = some r) : jCt G Y_C_bit [.int v0] m (jri r) := by
  refine jCt.ov (ls := [(0, .int v0)]) mi_C_bit (jAvI jAvN) (Nat.le_of_ble_eq_true rfl) ?_ ⟨rfl, rfl⟩
  unfold f_C_bit at h
  refine J.iconst (v := (1 : Int32)) d_C_bit_0 ki_1 ?_
  refine J.iload_n 0 d_C_bit_1 rfl rfl ?_
  refine J.ishl d_C_bit_2 ?_
  cases h
  exact J.iret d_C_bit_3 rfl (vp_nar_int _) rfl

def f_C_isIn (v0 : Int32) (v1 : Int32) (m : jMem) : Option (Int32 × jMem) :=
  if v1 < 0 then
    some ((0 : Int32), m)
  else
    if (30 : Int32) ≤ v1 then
      some ((0 : Int32), m)
    else
      if ((v0 >>> (v1 &&& 31)) &&& (1 : Int32)) = (1 : Int32) then
        some ((1 : Int32), m)
      else
        some ((0 : Int32), m)
theorem c_C_isIn {G : jG} (hG : jFul G) {v0 : Int32} {v1 : Int32} {m : jMem} {r : (Int32 × jMem)} (h : f_C_isIn v0 v1 m = some r) : jCt G Y_C_isIn [.int v0, .int v1] m (jri r) := by
  refine jCt.ov (ls := [(0, .int v0), (1, .int v1)]) mi_C_isIn (jAvI (jAvI jAvN)) (Nat.le_of_ble_eq_true rfl) ?_ ⟨rfl, rfl⟩
  unfold f_C_isIn at h
  refine J.iload_n 1 d_C_isIn_0 rfl rfl ?_
  refine J.if_lt 23 d_C_isIn_1 rfl (fun c => ?_) (fun c => ?_)
  · rw [if_pos c] at h
    refine J.iconst (v := (0 : Int32)) d_C_isIn_23 ki_0 ?_
    cases h
    exact J.iret d_C_isIn_24 rfl rfl rfl
  · rw [if_neg c] at h
    refine J.iload_n 1 d_C_isIn_4 rfl rfl ?_
    refine J.bipush (v := (30 : Int32)) d_C_isIn_5 kb_30 ?_
    refine J.icmp_ge 23 d_C_isIn_7 rfl (fun c => ?_) (fun c => ?_)
    · rw [if_pos c] at h
      refine J.iconst (v := (0 : Int32)) d_C_isIn_23 ki_0 ?_
      cases h
      exact J.iret d_C_isIn_24 rfl rfl rfl
    · rw [if_neg c] at h
      refine J.iload_n 0 d_C_isIn_10 rfl rfl ?_
      refine J.iload_n 1 d_C_isIn_11 rfl rfl ?_
      refine J.ishr d_C_isIn_12 ?_
      refine J.nop (pc' := 13) rfl ?_
      refine J.iconst (v := (1 : Int32)) d_C_isIn_13 ki_1 ?_
      refine J.iand d_C_isIn_14 ?_
      refine J.iconst (v := (1 : Int32)) d_C_isIn_15 ki_1 ?_
      refine J.icmp_ne 23 d_C_isIn_16 rfl (fun c => ?_) (fun c => ?_)
      · rw [if_neg c] at h
        refine J.iconst (v := (0 : Int32)) d_C_isIn_23 ki_0 ?_
        cases h
        exact J.iret d_C_isIn_24 rfl rfl rfl
      · rw [if_pos c] at h
        refine J.iconst (v := (1 : Int32)) d_C_isIn_19 ki_1 ?_
        refine J.goto 24 d_C_isIn_20 rfl ?_
        cases h
        exact J.iret d_C_isIn_24 rfl rfl rfl

def f_C_isWriter (v0 : Int32) (m : jMem) : Option (Int32 × jMem) :=
  if v0 < 0 then
    some ((0 : Int32), m)
  else
    if (6 : Int32) ≤ v0 then
      some ((0 : Int32), m)
    else
      some ((1 : Int32), m)
theorem c_C_isWriter {G : jG} (hG : jFul G) {v0 : Int32} {m : jMem} {r : (Int32 × jMem)} (h : f_C_isWriter v0 m = some r) : jCt G Y_C_isWriter [.int v0] m (jri r) := by
  refine jCt.ov (ls := [(0, .int v0)]) mi_C_isWriter (jAvI jAvN) (Nat.le_of_ble_eq_true rfl) ?_ ⟨rfl, rfl⟩
  unfold f_C_isWriter at h
  refine J.iload_n 0 d_C_isWriter_0 rfl rfl ?_
  refine J.if_lt 14 d_C_isWriter_1 rfl (fun c => ?_) (fun c => ?_)
  · rw [if_pos c] at h
    refine J.iconst (v := (0 : Int32)) d_C_isWriter_14 ki_0 ?_
    cases h
    exact J.iret d_C_isWriter_15 rfl rfl rfl
  · rw [if_neg c] at h
    refine J.iload_n 0 d_C_isWriter_4 rfl rfl ?_
    refine J.bipush (v := (6 : Int32)) d_C_isWriter_5 kb_6 ?_
    refine J.icmp_ge 14 d_C_isWriter_7 rfl (fun c => ?_) (fun c => ?_)
    · rw [if_pos c] at h
      refine J.iconst (v := (0 : Int32)) d_C_isWriter_14 ki_0 ?_
      cases h
      exact J.iret d_C_isWriter_15 rfl rfl rfl
    · rw [if_neg c] at h
      refine J.iconst (v := (1 : Int32)) d_C_isWriter_10 ki_1 ?_
      refine J.goto 15 d_C_isWriter_11 rfl ?_
      cases h
      exact J.iret d_C_isWriter_15 rfl rfl rfl

def f_JI_bitCount (v0 : Int32) (m : jMem) : Option (Int32 × jMem) :=
  some (((((((((v0 - ((jushr v0 (1 : Int32)) &&& (1431655765 : Int32))) &&& (858993459 : Int32)) + ((jushr (v0 - ((jushr v0 (1 : Int32)) &&& (1431655765 : Int32))) (2 : Int32)) &&& (858993459 : Int32))) + (jushr (((v0 - ((jushr v0 (1 : Int32)) &&& (1431655765 : Int32))) &&& (858993459 : Int32)) + ((jushr (v0 - ((jushr v0 (1 : Int32)) &&& (1431655765 : Int32))) (2 : Int32)) &&& (858993459 : Int32))) (4 : Int32))) &&& (252645135 : Int32)) + (jushr (((((v0 - ((jushr v0 (1 : Int32)) &&& (1431655765 : Int32))) &&& (858993459 : Int32)) + ((jushr (v0 - ((jushr v0 (1 : Int32)) &&& (1431655765 : Int32))) (2 : Int32)) &&& (858993459 : Int32))) + (jushr (((v0 - ((jushr v0 (1 : Int32)) &&& (1431655765 : Int32))) &&& (858993459 : Int32)) + ((jushr (v0 - ((jushr v0 (1 : Int32)) &&& (1431655765 : Int32))) (2 : Int32)) &&& (858993459 : Int32))) (4 : Int32))) &&& (252645135 : Int32)) (8 : Int32))) + (jushr ((((((v0 - ((jushr v0 (1 : Int32)) &&& (1431655765 : Int32))) &&& (858993459 : Int32)) + ((jushr (v0 - ((jushr v0 (1 : Int32)) &&& (1431655765 : Int32))) (2 : Int32)) &&& (858993459 : Int32))) + (jushr (((v0 - ((jushr v0 (1 : Int32)) &&& (1431655765 : Int32))) &&& (858993459 : Int32)) + ((jushr (v0 - ((jushr v0 (1 : Int32)) &&& (1431655765 : Int32))) (2 : Int32)) &&& (858993459 : Int32))) (4 : Int32))) &&& (252645135 : Int32)) + (jushr (((((v0 - ((jushr v0 (1 : Int32)) &&& (1431655765 : Int32))) &&& (858993459 : Int32)) + ((jushr (v0 - ((jushr v0 (1 : Int32)) &&& (1431655765 : Int32))) (2 : Int32)) &&& (858993459 : Int32))) + (jushr (((v0 - ((jushr v0 (1 : Int32)) &&& (1431655765 : Int32))) &&& (858993459 : Int32)) + ((jushr (v0 - ((jushr v0 (1 : Int32)) &&& (1431655765 : Int32))) (2 : Int32)) &&& (858993459 : Int32))) (4 : Int32))) &&& (252645135 : Int32)) (8 : Int32))) (16 : Int32))) &&& (63 : Int32)), m)
theorem c_JI_bitCount {G : jG} (hG : jFul G) {v0 : Int32} {m : jMem} {r : (Int32 × jMem)} (h : f_JI_bitCount v0 m = some r) : jCt G Y_JI_bitCount [.int v0] m (jri r) := by
  refine jCt.ov (ls := [(0, .int v0)]) mi_JI_bitCount (jAvI jAvN) (Nat.le_of_ble_eq_true rfl) ?_ ⟨rfl, rfl⟩
  unfold f_JI_bitCount at h
  refine J.iload_n 0 d_JI_bitCount_0 rfl rfl ?_
  refine J.iload_n 0 d_JI_bitCount_1 rfl rfl ?_
  refine J.iconst (v := (1 : Int32)) d_JI_bitCount_2 ki_1 ?_
  refine J.ushr d_JI_bitCount_3 ?_
  refine J.ldcwi (v := (1431655765 : Int32)) d_JI_bitCount_4 (jt_3 211 rfl rfl) ?_
  refine J.iand d_JI_bitCount_7 ?_
  refine J.isub d_JI_bitCount_8 ?_
  refine J.istore_n (lv := [(0, .int (v0 - ((jushr v0 (1 : Int32)) &&& (1431655765 : Int32))))]) d_JI_bitCount_9 rfl (by decide) rfl ?_
  refine J.nop (pc' := 10) rfl ?_
  refine J.iload_n 0 d_JI_bitCount_10 rfl rfl ?_
  refine J.ldcwi (v := (858993459 : Int32)) d_JI_bitCount_11 (jt_3 212 rfl rfl) ?_
  refine J.iand d_JI_bitCount_14 ?_
  refine J.iload_n 0 d_JI_bitCount_15 rfl rfl ?_
  refine J.iconst (v := (2 : Int32)) d_JI_bitCount_16 ki_2 ?_
  refine J.ushr d_JI_bitCount_17 ?_
  refine J.ldcwi (v := (858993459 : Int32)) d_JI_bitCount_18 (jt_3 212 rfl rfl) ?_
  refine J.iand d_JI_bitCount_21 ?_
  refine J.nop (pc' := 22) rfl ?_
  refine J.iadd d_JI_bitCount_22 ?_
  refine J.istore_n (lv := [(0, .int (((v0 - ((jushr v0 (1 : Int32)) &&& (1431655765 : Int32))) &&& (858993459 : Int32)) + ((jushr (v0 - ((jushr v0 (1 : Int32)) &&& (1431655765 : Int32))) (2 : Int32)) &&& (858993459 : Int32))))]) d_JI_bitCount_23 rfl (by decide) rfl ?_
  refine J.iload_n 0 d_JI_bitCount_24 rfl rfl ?_
  refine J.iload_n 0 d_JI_bitCount_25 rfl rfl ?_
  refine J.iconst (v := (4 : Int32)) d_JI_bitCount_26 ki_4 ?_
  refine J.ushr d_JI_bitCount_27 ?_
  refine J.iadd d_JI_bitCount_28 ?_
  refine J.ldcwi (v := (252645135 : Int32)) d_JI_bitCount_29 (jt_3 213 rfl rfl) ?_
  refine J.nop (pc' := 32) rfl ?_
  refine J.iand d_JI_bitCount_32 ?_
  refine J.istore_n (lv := [(0, .int (((((v0 - ((jushr v0 (1 : Int32)) &&& (1431655765 : Int32))) &&& (858993459 : Int32)) + ((jushr (v0 - ((jushr v0 (1 : Int32)) &&& (1431655765 : Int32))) (2 : Int32)) &&& (858993459 : Int32))) + (jushr (((v0 - ((jushr v0 (1 : Int32)) &&& (1431655765 : Int32))) &&& (858993459 : Int32)) + ((jushr (v0 - ((jushr v0 (1 : Int32)) &&& (1431655765 : Int32))) (2 : Int32)) &&& (858993459 : Int32))) (4 : Int32))) &&& (252645135 : Int32)))]) d_JI_bitCount_33 rfl (by decide) rfl ?_
  refine J.iload_n 0 d_JI_bitCount_34 rfl rfl ?_
  refine J.iload_n 0 d_JI_bitCount_35 rfl rfl ?_
  refine J.bipush (v := (8 : Int32)) d_JI_bitCount_36 kb_8 ?_
  refine J.ushr d_JI_bitCount_38 ?_
  refine J.iadd d_JI_bitCount_39 ?_
  refine J.istore_n (lv := [(0, .int ((((((v0 - ((jushr v0 (1 : Int32)) &&& (1431655765 : Int32))) &&& (858993459 : Int32)) + ((jushr (v0 - ((jushr v0 (1 : Int32)) &&& (1431655765 : Int32))) (2 : Int32)) &&& (858993459 : Int32))) + (jushr (((v0 - ((jushr v0 (1 : Int32)) &&& (1431655765 : Int32))) &&& (858993459 : Int32)) + ((jushr (v0 - ((jushr v0 (1 : Int32)) &&& (1431655765 : Int32))) (2 : Int32)) &&& (858993459 : Int32))) (4 : Int32))) &&& (252645135 : Int32)) + (jushr (((((v0 - ((jushr v0 (1 : Int32)) &&& (1431655765 : Int32))) &&& (858993459 : Int32)) + ((jushr (v0 - ((jushr v0 (1 : Int32)) &&& (1431655765 : Int32))) (2 : Int32)) &&& (858993459 : Int32))) + (jushr (((v0 - ((jushr v0 (1 : Int32)) &&& (1431655765 : Int32))) &&& (858993459 : Int32)) + ((jushr (v0 - ((jushr v0 (1 : Int32)) &&& (1431655765 : Int32))) (2 : Int32)) &&& (858993459 : Int32))) (4 : Int32))) &&& (252645135 : Int32)) (8 : Int32))))]) d_JI_bitCount_40 rfl (by decide) rfl ?_
  refine J.nop (pc' := 41) rfl ?_
  refine J.iload_n 0 d_JI_bitCount_41 rfl rfl ?_
  refine J.iload_n 0 d_JI_bitCount_42 rfl rfl ?_
  refine J.bipush (v := (16 : Int32)) d_JI_bitCount_43 kb_16 ?_
  refine J.ushr d_JI_bitCount_45 ?_
  refine J.iadd d_JI_bitCount_46 ?_
  refine J.istore_n (lv := [(0, .int (((((((v0 - ((jushr v0 (1 : Int32)) &&& (1431655765 : Int32))) &&& (858993459 : Int32)) + ((jushr (v0 - ((jushr v0 (1 : Int32)) &&& (1431655765 : Int32))) (2 : Int32)) &&& (858993459 : Int32))) + (jushr (((v0 - ((jushr v0 (1 : Int32)) &&& (1431655765 : Int32))) &&& (858993459 : Int32)) + ((jushr (v0 - ((jushr v0 (1 : Int32)) &&& (1431655765 : Int32))) (2 : Int32)) &&& (858993459 : Int32))) (4 : Int32))) &&& (252645135 : Int32)) + (jushr (((((v0 - ((jushr v0 (1 : Int32)) &&& (1431655765 : Int32))) &&& (858993459 : Int32)) + ((jushr (v0 - ((jushr v0 (1 : Int32)) &&& (1431655765 : Int32))) (2 : Int32)) &&& (858993459 : Int32))) + (jushr (((v0 - ((jushr v0 (1 : Int32)) &&& (1431655765 : Int32))) &&& (858993459 : Int32)) + ((jushr (v0 - ((jushr v0 (1 : Int32)) &&& (1431655765 : Int32))) (2 : Int32)) &&& (858993459 : Int32))) (4 : Int32))) &&& (252645135 : Int32)) (8 : Int32))) + (jushr ((((((v0 - ((jushr v0 (1 : Int32)) &&& (1431655765 : Int32))) &&& (858993459 : Int32)) + ((jushr (v0 - ((jushr v0 (1 : Int32)) &&& (1431655765 : Int32))) (2 : Int32)) &&& (858993459 : Int32))) + (jushr (((v0 - ((jushr v0 (1 : Int32)) &&& (1431655765 : Int32))) &&& (858993459 : Int32)) + ((jushr (v0 - ((jushr v0 (1 : Int32)) &&& (1431655765 : Int32))) (2 : Int32)) &&& (858993459 : Int32))) (4 : Int32))) &&& (252645135 : Int32)) + (jushr (((((v0 - ((jushr v0 (1 : Int32)) &&& (1431655765 : Int32))) &&& (858993459 : Int32)) + ((jushr (v0 - ((jushr v0 (1 : Int32)) &&& (1431655765 : Int32))) (2 : Int32)) &&& (858993459 : Int32))) + (jushr (((v0 - ((jushr v0 (1 : Int32)) &&& (1431655765 : Int32))) &&& (858993459 : Int32)) + ((jushr (v0 - ((jushr v0 (1 : Int32)) &&& (1431655765 : Int32))) (2 : Int32)) &&& (858993459 : Int32))) (4 : Int32))) &&& (252645135 : Int32)) (8 : Int32))) (16 : Int32))))]) d_JI_bitCount_47 rfl (by decide) rfl ?_
  refine J.iload_n 0 d_JI_bitCount_48 rfl rfl ?_
  refine J.bipush (v := (63 : Int32)) d_JI_bitCount_49 kb_63 ?_
  refine J.nop (pc' := 51) rfl ?_
  refine J.iand d_JI_bitCount_51 ?_
  cases h
  exact J.iret d_JI_bitCount_52 rfl (vp_nar_int _) rfl

def f_C_truth (v0 : Int32) (m : jMem) : Option (Int32 × jMem) :=
  if v0 = 0 then
    some ((0 : Int32), m)
  else
    some ((1 : Int32), m)
theorem c_C_truth {G : jG} (hG : jFul G) {v0 : Int32} {m : jMem} {r : (Int32 × jMem)} (h : f_C_truth v0 m = some r) : jCt G Y_C_truth [.int v0] m (jri r) := by
  refine jCt.ov (ls := [(0, .int v0)]) mi_C_truth (jAvI jAvN) (Nat.le_of_ble_eq_true rfl) ?_ ⟨rfl, rfl⟩
  unfold f_C_truth at h
  refine J.iload_n 0 d_C_truth_0 rfl rfl ?_
  refine J.if_eq 8 d_C_truth_1 rfl (fun c => ?_) (fun c => ?_)
  · rw [if_pos c] at h
    refine J.iconst (v := (0 : Int32)) d_C_truth_8 ki_0 ?_
    cases h
    exact J.iret d_C_truth_9 rfl (vp_nar_int _) rfl
  · rw [if_neg c] at h
    refine J.iconst (v := (1 : Int32)) d_C_truth_4 ki_1 ?_
    refine J.goto 9 d_C_truth_5 rfl ?_
    cases h
    exact J.iret d_C_truth_9 rfl (vp_nar_int _) rfl

def f_C_isBearing (v0 : Int32) (m : jMem) : Option (Int32 × jMem) :=
  if v0 < 0 then
    some ((0 : Int32), m)
  else
    if (3 : Int32) < v0 then
      some ((0 : Int32), m)
    else
      some ((1 : Int32), m)
theorem c_C_isBearing {G : jG} (hG : jFul G) {v0 : Int32} {m : jMem} {r : (Int32 × jMem)} (h : f_C_isBearing v0 m = some r) : jCt G Y_C_isBearing [.int v0] m (jri r) := by
  refine jCt.ov (ls := [(0, .int v0)]) mi_C_isBearing (jAvI jAvN) (Nat.le_of_ble_eq_true rfl) ?_ ⟨rfl, rfl⟩
  unfold f_C_isBearing at h
  refine J.iload_n 0 d_C_isBearing_0 rfl rfl ?_
  refine J.if_lt 13 d_C_isBearing_1 rfl (fun c => ?_) (fun c => ?_)
  · rw [if_pos c] at h
    refine J.iconst (v := (0 : Int32)) d_C_isBearing_13 ki_0 ?_
    cases h
    exact J.iret d_C_isBearing_14 rfl rfl rfl
  · rw [if_neg c] at h
    refine J.iload_n 0 d_C_isBearing_4 rfl rfl ?_
    refine J.iconst (v := (3 : Int32)) d_C_isBearing_5 ki_3 ?_
    refine J.icmp_gt 13 d_C_isBearing_6 rfl (fun c => ?_) (fun c => ?_)
    · rw [if_pos c] at h
      refine J.iconst (v := (0 : Int32)) d_C_isBearing_13 ki_0 ?_
      cases h
      exact J.iret d_C_isBearing_14 rfl rfl rfl
    · rw [if_neg c] at h
      refine J.iconst (v := (1 : Int32)) d_C_isBearing_9 ki_1 ?_
      refine J.goto 14 d_C_isBearing_10 rfl ?_
      cases h
      exact J.iret d_C_isBearing_14 rfl rfl rfl
