theorem jr_cat (G : jG) (n : Nat) : (jr G n).category = 1 := by
  unfold jr jro
  split <;> rfl
theorem jr_pos {G : jG} {n : Nat} (h : 0 < n) : jr G n = .ref (jad G n) := by
  unfold jr jro
  rw [if_neg (by omega)]
  rfl
theorem jr_zero {G : jG} : jr G 0 = .null := rfl
theorem jr_or (G : jG) (n : Nat) : jr G n = .null ∨ ∃ a, jr G n = .ref a := by
  rcases Nat.eq_zero_or_pos n with h | h
  · subst h; exact Or.inl rfl
  · exact Or.inr ⟨_, jr_pos h⟩
section JR
variable {G : jG} {Y : jY} {pc : Nat} {ls : List (Nat × Value)} {st : List Value} {M : jMem} {Q : jQT} {R : jRes}
theorem J.iconst {n : Int} {v : Int32} (hd : decode (jcc Y) pc = .ok (.iconst n, 1)) (hv : Int32.ofInt n = v) (K : JQ G Y (pc + 1) ls (.int v :: st) M Q) : JQ G Y pc ls st M Q := by
  intro p e s m args below meth c H locs la rm F hF hW hS hl
  exact lv_iconst F.1 F.2.1 hd hv (K p e s m args below meth c H locs la rm F hF hW hS hl)
theorem J.bipush {n : Int} {v : Int32} (hd : decode (jcc Y) pc = .ok (.bipush n, 2)) (hv : (Int8.ofInt n).toInt32 = v) (K : JQ G Y (pc + 2) ls (.int v :: st) M Q) : JQ G Y pc ls st M Q := by
  intro p e s m args below meth c H locs la rm F hF hW hS hl
  exact lv_bipush F.1 F.2.1 hd hv (K p e s m args below meth c H locs la rm F hF hW hS hl)
theorem J.sipush {n : Int} {v : Int32} (hd : decode (jcc Y) pc = .ok (.sipush n, 3)) (hv : (Int16.ofInt n).toInt32 = v) (K : JQ G Y (pc + 3) ls (.int v :: st) M Q) : JQ G Y pc ls st M Q := by
  intro p e s m args below meth c H locs la rm F hF hW hS hl
  exact lv_sipush F.1 F.2.1 hd hv (K p e s m args below meth c H locs la rm F hF hW hS hl)
theorem J.ldci {index : Nat} {v : Int32} (hd : decode (jcc Y) pc = .ok (.ldc index, 2)) (hc : Cond.constant (jy Y).cls index v ∈ jw) (K : JQ G Y (pc + 2) ls (.int v :: st) M Q) : JQ G Y pc ls st M Q := by
  intro p e s m args below meth c H locs la rm F hF hW hS hl
  exact lv_ldc F.1 F.2.1 F.2.2.2.1 (F.2.2.2.2.1 _ hc) hd (K p e s m args below meth c H locs la rm F hF hW hS hl)
theorem J.iload_n (q : Nat) {k : Fin 4} {i : Nat} {x : Int32} (hd : decode (jcc Y) pc = .ok (.iload_n k, 1)) (hi : (k : Nat) = i) (h : ls[q]? = some (i, .int x)) (K : JQ G Y (pc + 1) ls (.int x :: st) M Q) : JQ G Y pc ls st M Q := by
  intro p e s m args below meth c H locs la rm F hF hW hS hl
  exact lv_iload_n F.1 F.2.1 hd hi (lv_at hl q h) (K p e s m args below meth c H locs la rm F hF hW hS hl)
theorem J.iload (q : Nat) {i : Nat} {x : Int32} (hd : decode (jcc Y) pc = .ok (.iload i, 2)) (h : ls[q]? = some (i, .int x)) (K : JQ G Y (pc + 2) ls (.int x :: st) M Q) : JQ G Y pc ls st M Q := by
  intro p e s m args below meth c H locs la rm F hF hW hS hl
  exact lv_iload F.1 F.2.1 hd (lv_at hl q h) (K p e s m args below meth c H locs la rm F hF hW hS hl)
theorem J.aload_n (q : Nat) {k : Fin 4} {i n : Nat} (hd : decode (jcc Y) pc = .ok (.aload_n k, 1)) (hi : (k : Nat) = i) (h : ls[q]? = some (i, jr G n)) (K : JQ G Y (pc + 1) ls (jr G n :: st) M Q) : JQ G Y pc ls st M Q := by
  intro p e s m args below meth c H locs la rm F hF hW hS hl
  have K := K p e s m args below meth c H locs la rm F hF hW hS hl
  rcases Nat.eq_zero_or_pos n with hn | hn
  · subst hn
    rw [jr_zero] at h K
    exact lv_aload_nN F.1 F.2.1 hd hi (lv_at hl q h) K
  · rw [jr_pos hn] at h K
    exact lv_aload_n F.1 F.2.1 hd hi (lv_at hl q h) K
theorem J.aload (q : Nat) {i n : Nat} (hd : decode (jcc Y) pc = .ok (.aload i, 2)) (h : ls[q]? = some (i, jr G n)) (K : JQ G Y (pc + 2) ls (jr G n :: st) M Q) : JQ G Y pc ls st M Q := by
  intro p e s m args below meth c H locs la rm F hF hW hS hl
  have K := K p e s m args below meth c H locs la rm F hF hW hS hl
  rcases Nat.eq_zero_or_pos n with hn | hn
  · subst hn
    rw [jr_zero] at h K
    exact lv_aloadN F.1 F.2.1 hd (lv_at hl q h) K
  · rw [jr_pos hn] at h K
    exact lv_aload F.1 F.2.1 hd (lv_at hl q h) K
theorem J.istore_n {k : Fin 4} {i : Nat} {x : Int32} {lv : List (Nat × Value)} (hd : decode (jcc Y) pc = .ok (.istore_n k, 1)) (hi : (k : Nat) = i) (hn : i < jnL Y) (hl0 : (i, Value.int x) :: ls.filter (fun q => !(q.1 == i) && !(q.1 + 1 == i && q.2.category == 2)) = lv) (K : JQ G Y (pc + 1) lv st M Q) : JQ G Y pc ls (.int x :: st) M Q := by
  intro p e s m args below meth c H locs la rm F hF hW hS hl
  exact lv_istore_n F.1 F.2.1 hd hi hl hn hl0 (fun la2 hl2 => K p e s m args below meth c H locs la2 rm F hF hW hS hl2)
theorem J.istore {i : Nat} {x : Int32} {lv : List (Nat × Value)} (hd : decode (jcc Y) pc = .ok (.istore i, 2)) (hn : i < jnL Y) (hl0 : (i, Value.int x) :: ls.filter (fun q => !(q.1 == i) && !(q.1 + 1 == i && q.2.category == 2)) = lv) (K : JQ G Y (pc + 2) lv st M Q) : JQ G Y pc ls (.int x :: st) M Q := by
  intro p e s m args below meth c H locs la rm F hF hW hS hl
  exact lv_istore F.1 F.2.1 hd hl hn hl0 (fun la2 hl2 => K p e s m args below meth c H locs la2 rm F hF hW hS hl2)
theorem J.astore_n {k : Fin 4} {i n : Nat} {lv : List (Nat × Value)} (hd : decode (jcc Y) pc = .ok (.astore_n k, 1)) (hi : (k : Nat) = i) (hn : i < jnL Y) (hl0 : (i, jr G n) :: ls.filter (fun q => !(q.1 == i) && !(q.1 + 1 == i && q.2.category == 2)) = lv) (K : JQ G Y (pc + 1) lv st M Q) : JQ G Y pc ls (jr G n :: st) M Q := by
  intro p e s m args below meth c H locs la rm F hF hW hS hl
  rcases Nat.eq_zero_or_pos n with hz | hz
  · subst hz
    rw [jr_zero] at hl0 ⊢
    exact lv_astore_nN F.1 F.2.1 hd hi hl hn hl0 (fun la2 hl2 => K p e s m args below meth c H locs la2 rm F hF hW hS hl2)
  · rw [jr_pos hz] at hl0 ⊢
    exact lv_astore_n F.1 F.2.1 hd hi hl hn hl0 (fun la2 hl2 => K p e s m args below meth c H locs la2 rm F hF hW hS hl2)
theorem J.astore {i n : Nat} {lv : List (Nat × Value)} (hd : decode (jcc Y) pc = .ok (.astore i, 2)) (hn : i < jnL Y) (hl0 : (i, jr G n) :: ls.filter (fun q => !(q.1 == i) && !(q.1 + 1 == i && q.2.category == 2)) = lv) (K : JQ G Y (pc + 2) lv st M Q) : JQ G Y pc ls (jr G n :: st) M Q := by
  intro p e s m args below meth c H locs la rm F hF hW hS hl
  rcases Nat.eq_zero_or_pos n with hz | hz
  · subst hz
    rw [jr_zero] at hl0 ⊢
    exact lv_astoreN F.1 F.2.1 hd hl hn hl0 (fun la2 hl2 => K p e s m args below meth c H locs la2 rm F hF hW hS hl2)
  · rw [jr_pos hz] at hl0 ⊢
    exact lv_astore F.1 F.2.1 hd hl hn hl0 (fun la2 hl2 => K p e s m args below meth c H locs la2 rm F hF hW hS hl2)
theorem J.iinc (k : Nat) {i : Nat} {n : Int} {x v : Int32} {lv : List (Nat × Value)} (hd : decode (jcc Y) pc = .ok (.iinc i n, 3)) (hk : ls[k]? = some (i, .int x)) (hv : Int32.ofInt n = v) (hn : i < jnL Y) (hl0 : (i, Value.int (x + v)) :: ls.filter (fun q => !(q.1 == i) && !(q.1 + 1 == i && q.2.category == 2)) = lv) (K : JQ G Y (pc + 3) lv st M Q) : JQ G Y pc ls st M Q := by
  intro p e s m args below meth c H locs la rm F hF hW hS hl
  exact lv_iinc F.1 F.2.1 hd hl hk (by rw [hv]) hn hl0 (fun la2 hl2 => K p e s m args below meth c H locs la2 rm F hF hW hS hl2)
theorem J.iadd {x y : Int32} (hd : decode (jcc Y) pc = .ok (.iadd, 1)) (K : JQ G Y (pc + 1) ls (.int (x + y) :: st) M Q) : JQ G Y pc ls (.int y :: .int x :: st) M Q := by
  intro p e s m args below meth c H locs la rm F hF hW hS hl
  exact lv_iadd F.1 F.2.1 hd (K p e s m args below meth c H locs la rm F hF hW hS hl)
theorem J.isub {x y : Int32} (hd : decode (jcc Y) pc = .ok (.isub, 1)) (K : JQ G Y (pc + 1) ls (.int (x - y) :: st) M Q) : JQ G Y pc ls (.int y :: .int x :: st) M Q := by
  intro p e s m args below meth c H locs la rm F hF hW hS hl
  exact lv_isub F.1 F.2.1 hd (K p e s m args below meth c H locs la rm F hF hW hS hl)
theorem J.imul {x y : Int32} (hd : decode (jcc Y) pc = .ok (.imul, 1)) (K : JQ G Y (pc + 1) ls (.int (x * y) :: st) M Q) : JQ G Y pc ls (.int y :: .int x :: st) M Q := by
  intro p e s m args below meth c H locs la rm F hF hW hS hl
  exact lv_imul F.1 F.2.1 hd (K p e s m args below meth c H locs la rm F hF hW hS hl)
theorem J.iand {x y : Int32} (hd : decode (jcc Y) pc = .ok (.iand, 1)) (K : JQ G Y (pc + 1) ls (.int (x &&& y) :: st) M Q) : JQ G Y pc ls (.int y :: .int x :: st) M Q := by
  intro p e s m args below meth c H locs la rm F hF hW hS hl
  exact lv_iand F.1 F.2.1 hd (K p e s m args below meth c H locs la rm F hF hW hS hl)
theorem J.ior {x y : Int32} (hd : decode (jcc Y) pc = .ok (.ior, 1)) (K : JQ G Y (pc + 1) ls (.int (x ||| y) :: st) M Q) : JQ G Y pc ls (.int y :: .int x :: st) M Q := by
  intro p e s m args below meth c H locs la rm F hF hW hS hl
  exact lv_ior F.1 F.2.1 hd (K p e s m args below meth c H locs la rm F hF hW hS hl)
theorem J.ixor {x y : Int32} (hd : decode (jcc Y) pc = .ok (.ixor, 1)) (K : JQ G Y (pc + 1) ls (.int (x ^^^ y) :: st) M Q) : JQ G Y pc ls (.int y :: .int x :: st) M Q := by
  intro p e s m args below meth c H locs la rm F hF hW hS hl
  exact lv_ixor F.1 F.2.1 hd (K p e s m args below meth c H locs la rm F hF hW hS hl)
theorem J.ishl {x y : Int32} (hd : decode (jcc Y) pc = .ok (.ishl, 1)) (K : JQ G Y (pc + 1) ls (.int (x <<< (y &&& 31)) :: st) M Q) : JQ G Y pc ls (.int y :: .int x :: st) M Q := by
  intro p e s m args below meth c H locs la rm F hF hW hS hl
  exact lv_ishl F.1 F.2.1 hd (K p e s m args below meth c H locs la rm F hF hW hS hl)
theorem J.ishr {x y : Int32} (hd : decode (jcc Y) pc = .ok (.ishr, 1)) (K : JQ G Y (pc + 1) ls (.int (x >>> (y &&& 31)) :: st) M Q) : JQ G Y pc ls (.int y :: .int x :: st) M Q := by
  intro p e s m args below meth c H locs la rm F hF hW hS hl
  exact lv_ishr F.1 F.2.1 hd (K p e s m args below meth c H locs la rm F hF hW hS hl)
theorem J.iushr {x y : Int32} (hd : decode (jcc Y) pc = .ok (.iushr, 1)) (K : JQ G Y (pc + 1) ls (.int ((x.toUInt32 >>> (y.toUInt32 &&& Int32.toUInt32 31)).toInt32) :: st) M Q) : JQ G Y pc ls (.int y :: .int x :: st) M Q := by
  intro p e s m args below meth c H locs la rm F hF hW hS hl
  exact lv_iushr F.1 F.2.1 hd rfl (K p e s m args below meth c H locs la rm F hF hW hS hl)
theorem J.idiv {x y : Int32} (hd : decode (jcc Y) pc = .ok (.idiv, 1)) (h0 : ¬ y = 0) (K : JQ G Y (pc + 1) ls (.int (x / y) :: st) M Q) : JQ G Y pc ls (.int y :: .int x :: st) M Q := by
  intro p e s m args below meth c H locs la rm F hF hW hS hl
  exact lv_idiv F.1 F.2.1 hd h0 (K p e s m args below meth c H locs la rm F hF hW hS hl)
theorem J.irem {x y : Int32} (hd : decode (jcc Y) pc = .ok (.irem, 1)) (h0 : ¬ y = 0) (K : JQ G Y (pc + 1) ls (.int (x - x / y * y) :: st) M Q) : JQ G Y pc ls (.int y :: .int x :: st) M Q := by
  intro p e s m args below meth c H locs la rm F hF hW hS hl
  exact lv_irem F.1 F.2.1 hd h0 (K p e s m args below meth c H locs la rm F hF hW hS hl)
theorem J.dup {va : Value} (hd : decode (jcc Y) pc = .ok (.dup, 1)) (ha : va.category = 1) (K : JQ G Y (pc + 1) ls (va :: va :: st) M Q) : JQ G Y pc ls (va :: st) M Q := by
  intro p e s m args below meth c H locs la rm F hF hW hS hl
  exact lv_dup F.1 F.2.1 hd ha (K p e s m args below meth c H locs la rm F hF hW hS hl)
theorem J.dup2 {va vb : Value} (hd : decode (jcc Y) pc = .ok (.dup2, 1)) (ha : va.category = 1) (hb : vb.category = 1) (K : JQ G Y (pc + 1) ls (va :: vb :: va :: vb :: st) M Q) : JQ G Y pc ls (va :: vb :: st) M Q := by
  intro p e s m args below meth c H locs la rm F hF hW hS hl
  exact lv_dup2_11 F.1 F.2.1 hd ha hb (K p e s m args below meth c H locs la rm F hF hW hS hl)
theorem J.pop {va : Value} (hd : decode (jcc Y) pc = .ok (.pop, 1)) (ha : va.category = 1) (K : JQ G Y (pc + 1) ls st M Q) : JQ G Y pc ls (va :: st) M Q := by
  intro p e s m args below meth c H locs la rm F hF hW hS hl
  exact lv_pop F.1 F.2.1 hd ha (K p e s m args below meth c H locs la rm F hF hW hS hl)
theorem J.goto {off : Int} (tgt : Nat) (hd : decode (jcc Y) pc = .ok (.goto off, 3)) (ht : (pc : Int) + off = (tgt : Int)) (K : JQ G Y tgt ls st M Q) : JQ G Y pc ls st M Q := by
  intro p e s m args below meth c H locs la rm F hF hW hS hl
  exact lv_goto F.1 F.2.1 hd ht (K p e s m args below meth c H locs la rm F hF hW hS hl)
theorem J.icmp_eq {x y : Int32} {off : Int} (tgt : Nat) (hd : decode (jcc Y) pc = .ok (.if_icmp .eq off, 3)) (ht : (pc : Int) + off = (tgt : Int)) (Kt : x = y → JQ G Y tgt ls st M Q) (Kf : ¬ x = y → JQ G Y (pc + 3) ls st M Q) : JQ G Y pc ls (.int y :: .int x :: st) M Q := by
  intro p e s m args below meth c H locs la rm F hF hW hS hl
  exact lv_icmp_eq F.1 F.2.1 hd ht (fun q => Kt q p e s m args below meth c H locs la rm F hF hW hS hl) (fun q => Kf q p e s m args below meth c H locs la rm F hF hW hS hl)
theorem J.if_eq {x : Int32} {off : Int} (tgt : Nat) (hd : decode (jcc Y) pc = .ok (.ifCond .eq off, 3)) (ht : (pc : Int) + off = (tgt : Int)) (Kt : x = 0 → JQ G Y tgt ls st M Q) (Kf : ¬ x = 0 → JQ G Y (pc + 3) ls st M Q) : JQ G Y pc ls (.int x :: st) M Q := by
  intro p e s m args below meth c H locs la rm F hF hW hS hl
  exact lv_if_eq F.1 F.2.1 hd ht (fun q => Kt q p e s m args below meth c H locs la rm F hF hW hS hl) (fun q => Kf q p e s m args below meth c H locs la rm F hF hW hS hl)
theorem J.icmp_ne {x y : Int32} {off : Int} (tgt : Nat) (hd : decode (jcc Y) pc = .ok (.if_icmp .ne off, 3)) (ht : (pc : Int) + off = (tgt : Int)) (Kt : ¬ x = y → JQ G Y tgt ls st M Q) (Kf : x = y → JQ G Y (pc + 3) ls st M Q) : JQ G Y pc ls (.int y :: .int x :: st) M Q := by
  intro p e s m args below meth c H locs la rm F hF hW hS hl
  exact lv_icmp_ne F.1 F.2.1 hd ht (fun q => Kt q p e s m args below meth c H locs la rm F hF hW hS hl) (fun q => Kf q p e s m args below meth c H locs la rm F hF hW hS hl)
theorem J.if_ne {x : Int32} {off : Int} (tgt : Nat) (hd : decode (jcc Y) pc = .ok (.ifCond .ne off, 3)) (ht : (pc : Int) + off = (tgt : Int)) (Kt : ¬ x = 0 → JQ G Y tgt ls st M Q) (Kf : x = 0 → JQ G Y (pc + 3) ls st M Q) : JQ G Y pc ls (.int x :: st) M Q := by
  intro p e s m args below meth c H locs la rm F hF hW hS hl
  exact lv_if_ne F.1 F.2.1 hd ht (fun q => Kt q p e s m args below meth c H locs la rm F hF hW hS hl) (fun q => Kf q p e s m args below meth c H locs la rm F hF hW hS hl)
theorem J.icmp_lt {x y : Int32} {off : Int} (tgt : Nat) (hd : decode (jcc Y) pc = .ok (.if_icmp .lt off, 3)) (ht : (pc : Int) + off = (tgt : Int)) (Kt : x < y → JQ G Y tgt ls st M Q) (Kf : ¬ x < y → JQ G Y (pc + 3) ls st M Q) : JQ G Y pc ls (.int y :: .int x :: st) M Q := by
  intro p e s m args below meth c H locs la rm F hF hW hS hl
  exact lv_icmp_lt F.1 F.2.1 hd ht (fun q => Kt q p e s m args below meth c H locs la rm F hF hW hS hl) (fun q => Kf q p e s m args below meth c H locs la rm F hF hW hS hl)
theorem J.if_lt {x : Int32} {off : Int} (tgt : Nat) (hd : decode (jcc Y) pc = .ok (.ifCond .lt off, 3)) (ht : (pc : Int) + off = (tgt : Int)) (Kt : x < 0 → JQ G Y tgt ls st M Q) (Kf : ¬ x < 0 → JQ G Y (pc + 3) ls st M Q) : JQ G Y pc ls (.int x :: st) M Q := by
  intro p e s m args below meth c H locs la rm F hF hW hS hl
  exact lv_if_lt F.1 F.2.1 hd ht (fun q => Kt q p e s m args below meth c H locs la rm F hF hW hS hl) (fun q => Kf q p e s m args below meth c H locs la rm F hF hW hS hl)
theorem J.icmp_ge {x y : Int32} {off : Int} (tgt : Nat) (hd : decode (jcc Y) pc = .ok (.if_icmp .ge off, 3)) (ht : (pc : Int) + off = (tgt : Int)) (Kt : y ≤ x → JQ G Y tgt ls st M Q) (Kf : ¬ y ≤ x → JQ G Y (pc + 3) ls st M Q) : JQ G Y pc ls (.int y :: .int x :: st) M Q := by
  intro p e s m args below meth c H locs la rm F hF hW hS hl
  exact lv_icmp_ge F.1 F.2.1 hd ht (fun q => Kt q p e s m args below meth c H locs la rm F hF hW hS hl) (fun q => Kf q p e s m args below meth c H locs la rm F hF hW hS hl)
theorem J.if_ge {x : Int32} {off : Int} (tgt : Nat) (hd : decode (jcc Y) pc = .ok (.ifCond .ge off, 3)) (ht : (pc : Int) + off = (tgt : Int)) (Kt : 0 ≤ x → JQ G Y tgt ls st M Q) (Kf : ¬ 0 ≤ x → JQ G Y (pc + 3) ls st M Q) : JQ G Y pc ls (.int x :: st) M Q := by
  intro p e s m args below meth c H locs la rm F hF hW hS hl
  exact lv_if_ge F.1 F.2.1 hd ht (fun q => Kt q p e s m args below meth c H locs la rm F hF hW hS hl) (fun q => Kf q p e s m args below meth c H locs la rm F hF hW hS hl)
theorem J.icmp_gt {x y : Int32} {off : Int} (tgt : Nat) (hd : decode (jcc Y) pc = .ok (.if_icmp .gt off, 3)) (ht : (pc : Int) + off = (tgt : Int)) (Kt : y < x → JQ G Y tgt ls st M Q) (Kf : ¬ y < x → JQ G Y (pc + 3) ls st M Q) : JQ G Y pc ls (.int y :: .int x :: st) M Q := by
  intro p e s m args below meth c H locs la rm F hF hW hS hl
  exact lv_icmp_gt F.1 F.2.1 hd ht (fun q => Kt q p e s m args below meth c H locs la rm F hF hW hS hl) (fun q => Kf q p e s m args below meth c H locs la rm F hF hW hS hl)
theorem J.if_gt {x : Int32} {off : Int} (tgt : Nat) (hd : decode (jcc Y) pc = .ok (.ifCond .gt off, 3)) (ht : (pc : Int) + off = (tgt : Int)) (Kt : 0 < x → JQ G Y tgt ls st M Q) (Kf : ¬ 0 < x → JQ G Y (pc + 3) ls st M Q) : JQ G Y pc ls (.int x :: st) M Q := by
  intro p e s m args below meth c H locs la rm F hF hW hS hl
  exact lv_if_gt F.1 F.2.1 hd ht (fun q => Kt q p e s m args below meth c H locs la rm F hF hW hS hl) (fun q => Kf q p e s m args below meth c H locs la rm F hF hW hS hl)
theorem J.icmp_le {x y : Int32} {off : Int} (tgt : Nat) (hd : decode (jcc Y) pc = .ok (.if_icmp .le off, 3)) (ht : (pc : Int) + off = (tgt : Int)) (Kt : x ≤ y → JQ G Y tgt ls st M Q) (Kf : ¬ x ≤ y → JQ G Y (pc + 3) ls st M Q) : JQ G Y pc ls (.int y :: .int x :: st) M Q := by
  intro p e s m args below meth c H locs la rm F hF hW hS hl
  exact lv_icmp_le F.1 F.2.1 hd ht (fun q => Kt q p e s m args below meth c H locs la rm F hF hW hS hl) (fun q => Kf q p e s m args below meth c H locs la rm F hF hW hS hl)
theorem J.if_le {x : Int32} {off : Int} (tgt : Nat) (hd : decode (jcc Y) pc = .ok (.ifCond .le off, 3)) (ht : (pc : Int) + off = (tgt : Int)) (Kt : x ≤ 0 → JQ G Y tgt ls st M Q) (Kf : ¬ x ≤ 0 → JQ G Y (pc + 3) ls st M Q) : JQ G Y pc ls (.int x :: st) M Q := by
  intro p e s m args below meth c H locs la rm F hF hW hS hl
  exact lv_if_le F.1 F.2.1 hd ht (fun q => Kt q p e s m args below meth c H locs la rm F hF hW hS hl) (fun q => Kf q p e s m args below meth c H locs la rm F hF hW hS hl)
theorem J.ifnull {n : Nat} {off : Int} (tgt : Nat) (hd : decode (jcc Y) pc = .ok (.ifnull off, 3)) (ht : (pc : Int) + off = (tgt : Int)) (Kt : n = 0 → JQ G Y tgt ls st M Q) (Kf : ¬ n = 0 → JQ G Y (pc + 3) ls st M Q) : JQ G Y pc ls (jr G n :: st) M Q := by
  intro p e s m args below meth c H locs la rm F hF hW hS hl
  rcases Nat.eq_zero_or_pos n with hz | hz
  · subst hz
    rw [jr_zero]
    exact lv_ifnullN F.1 F.2.1 hd ht (Kt rfl p e s m args below meth c H locs la rm F hF hW hS hl)
  · rw [jr_pos hz]
    exact lv_ifnull F.1 F.2.1 hd (Kf (by omega) p e s m args below meth c H locs la rm F hF hW hS hl)
theorem J.ifnonnull {n : Nat} {off : Int} (tgt : Nat) (hd : decode (jcc Y) pc = .ok (.ifnonnull off, 3)) (ht : (pc : Int) + off = (tgt : Int)) (Kt : ¬ n = 0 → JQ G Y tgt ls st M Q) (Kf : n = 0 → JQ G Y (pc + 3) ls st M Q) : JQ G Y pc ls (jr G n :: st) M Q := by
  intro p e s m args below meth c H locs la rm F hF hW hS hl
  rcases Nat.eq_zero_or_pos n with hz | hz
  · subst hz
    rw [jr_zero]
    exact lv_ifnonnullN F.1 F.2.1 hd (Kf rfl p e s m args below meth c H locs la rm F hF hW hS hl)
  · rw [jr_pos hz]
    exact lv_ifnonnull F.1 F.2.1 hd ht (Kt (by omega) p e s m args below meth c H locs la rm F hF hW hS hl)
theorem J.tsIn {dflt lo hi : Int} {offs : Array Int} {len : Nat} {x v : Int32} {off : Int} (tgt : Nat) (hd : decode (jcc Y) pc = .ok (.tableswitch dflt lo hi offs, len)) (hx : x = v) (h1 : ¬ v.toInt < lo) (h2 : ¬ hi < v.toInt) (ho : offs[(v.toInt - lo).toNat]? = some off) (ht : (pc : Int) + off = (tgt : Int)) (K : JQ G Y tgt ls st M Q) : JQ G Y pc ls (.int x :: st) M Q := by
  intro p e s m args below meth c H locs la rm F hF hW hS hl
  subst hx
  exact lv_tableIn F.1 F.2.1 hd h1 h2 ho ht (K p e s m args below meth c H locs la rm F hF hW hS hl)
theorem J.tsOut {dflt lo hi : Int} {offs : Array Int} {len : Nat} {x : Int32} (tgt : Nat) (hd : decode (jcc Y) pc = .ok (.tableswitch dflt lo hi offs, len)) (h : x.toInt < lo ∨ hi < x.toInt) (ht : (pc : Int) + dflt = (tgt : Int)) (K : JQ G Y tgt ls st M Q) : JQ G Y pc ls (.int x :: st) M Q := by
  intro p e s m args below meth c H locs la rm F hF hW hS hl
  exact lv_tableOut F.1 F.2.1 hd h ht (K p e s m args below meth c H locs la rm F hF hW hS hl)
theorem J.lsw {dflt : Int} {ps : Array (Int × Int)} {len : Nat} {x : Int32} {off : Int} (tgt : Nat) (hd : decode (jcc Y) pc = .ok (.lookupswitch dflt ps, len)) (hp : (ps.toList.zip (ps.toList.drop 1)).all (fun (a, next) => a.1 < next.1) = true) (ho : Op.lookupswitch.offset ps.toList dflt x.toInt = off) (ht : (pc : Int) + off = (tgt : Int)) (K : JQ G Y tgt ls st M Q) : JQ G Y pc ls (.int x :: st) M Q := by
  intro p e s m args below meth c H locs la rm F hF hW hS hl
  exact lv_lookup F.1 F.2.1 hd hp ho ht (K p e s m args below meth c H locs la rm F hF hW hS hl)
/-- a field's link: class ci, slot k -/
def jFl (own : String) (index ci k : Nat) : Prop := ∃ (C : String) (T : u_T) (N : Nat), jcl[ci]? = some (C, T, N) ∧ k < N ∧ N = jnf ci ∧ (∀ w ∈ u_ws C T N, w ∈ jw) ∧ (T k).1 = C ∧ (Cond.fieldLink own index C (T k).2.1 (T k).2.2.1 ∈ jw ∨ ∃ host, Cond.fieldLinkNest own index C (T k).2.1 (T k).2.2.1 host ∈ jnest)
/-- a field that may be written, of a type -/
def jFp (ci k : Nat) (ty : FieldType) : Prop := ∃ (C : String) (T : u_T) (N : Nat) (ty0 : Nat → FieldType), jcl[ci]? = some (C, T, N) ∧ (∀ k, k < N → parseFieldDescriptor (T k).2.2.1 = some (ty0 k)) ∧ (∀ a, a < N → ∀ b, b < N → a ≠ b → (T a).2.1 ≠ (T b).2.1) ∧ (T k).2.2.2 = false ∧ parseFieldDescriptor (T k).2.2.1 = some ty
theorem jent_obj {G : jG} {M : jMem} {c : Nat} (h : jtag c = 0) : jent G M c = .inr (jpar c, (List.range (jnf (jpar c))).map (fun k => jfv G M c k (jkd (jpar c) k))) := by
  unfold jent
  rw [h]
  rfl
theorem J.getf {index ci k c : Nat} {v : Value} (hd : decode (jcc Y) pc = .ok (.getfield index, 3)) (hf : jFl (jy Y).cls index ci k) (hc : 0 < c ∧ c ≤ jK G ∧ jtag c = 0 ∧ jpar c = ci) (hv : jfv G M c k (jkd ci k) = v) (K : JQ G Y (pc + 3) ls (v :: st) M Q) : JQ G Y pc ls (jr G c :: st) M Q := by
  intro p e s m args below meth c0 H locs la rm F hF hW hS hl
  obtain ⟨C, T, N, hcl, hk, hN, hin, hT, hlk⟩ := hf
  obtain ⟨h0, h1, h2, h3⟩ := hc
  subst hv
  rw [jr_pos h0]
  have K := K p e s m args below meth c0 H locs la rm F hF hW hS hl
  have he := jwl_at (M := M) h0 h1
  rw [jent_obj h2, h3] at he
  have hv : ((List.range (jnf ci)).map (fun k => jfv G M c k (jkd ci k)))[k]? = some (jfv G M c k (jkd ci k)) := by
    rw [List.getElem?_map, List.getElem?_range (by omega)]
    rfl
  rcases hlk with hlk | ⟨host, hlk⟩
  · exact va_get F.1 F.2.1 (own := (jy Y).cls) (ref := C) F.2.2.2.2.1 hin F.2.2.2.1 F.K hW.1 (c - 1) he hcl k hk (F.2.2.2.2.1 _ hlk) (fun x hx => by rw [hT] at hx; exact hx) hv hd K
  · exact va_getN F.1 F.2.1 (own := (jy Y).cls) (ref := C) (host := host) F.2.2.2.2.1 hin F.2.2.2.1 F.K hW.1 (c - 1) he hcl k hk (va_Nw.use rfl (F.ne hlk)) (fun x hx => by rw [hT] at hx; exact hx) hv hd K
theorem jWd.upd {s : State} {H H1 : Heap} {locs locs1 : List Loc} {M' : jMem} (hs : jL G ≤ s.heap.size) (hW : jWd G M H) (hS : va_S (jA G) s.heap H locs) (a1 : va_P (jD G) jcl (jwl G M') H1) (a3 : va_S (jA G) s.heap H1 locs1) : jWd G M' H1 :=
  ⟨a1, Nat.le_trans hs a3.1, fun q hq => by
    rw [a3.2.1 q (Nat.lt_of_lt_of_le hq hs) (Nat.not_le.mpr hq), ← hS.2.1 q (Nat.lt_of_lt_of_le hq hs) (Nat.not_le.mpr hq)]
    exact hW.2.2 q hq⟩
theorem J.putf0 {index ci k c : Nat} {x : Int32} {ty : FieldType} (hd : decode (jcc Y) pc = .ok (.putfield index, 3)) (hf : jFl (jy Y).cls index ci k) (hp : jFp ci k ty) (hc : 0 < c ∧ c ≤ jK G ∧ jtag c = 0 ∧ jpar c = ci) (hk0 : jkd ci k = 0) (hn : narrow ty (.int x) = .int x) (hfit : fits ty (.int x) = true) (K : JQ G Y (pc + 3) ls st (jup M c k x) Q) : JQ G Y pc ls (.int x :: jr G c :: st) M Q := by
  intro p e s m args below meth c0 H locs la rm F hF hW hS hl
  obtain ⟨C, T, N, hcl, hk, hN, hin, hT, hlk⟩ := hf
  obtain ⟨C', T', N', ty0, hcl', hty, hnm, hfin, hdesc⟩ := hp
  cases hcl.symm.trans hcl'
  obtain ⟨h0, h1, h2, h3⟩ := hc
  rw [jr_pos h0]
  have he := jwl_at (M := M) h0 h1
  rw [jent_obj h2, h3] at he
  have hset : (jwl G M).set (c - 1) (jad G c, .inr (ci, ((List.range (jnf ci)).map (fun k => jfv G M c k (jkd ci k))).set k (.int x))) = jwl G (jup M c k x) := by
    refine jwl_set h0 ?_ (fun c' hc' => jent_ne (jup_ne hc'))
    rw [jent_obj h2, h3]
    congr 2
    refine (jmap_set (g := fun k' => jfv G (jup M c k x) c k' (jkd ci k')) ?_ (fun j hj => ?_)).symm
    · simp only [hk0, jfv, jup, and_self, if_true]
    · simp only [jfv, jup, hj, and_false, if_false]
  have KK : ∀ (H1 : Heap) (locs1 : List Loc), va_P (jD G) jcl ((jwl G M).set (c - 1) (jad G c, .inr (ci, ((List.range (jnf ci)).map (fun k => jfv G M c k (jkd ci k))).set k (.int x)))) H1 → va_D (jA G) ((jwl G M).set (c - 1) (jad G c, .inr (ci, ((List.range (jnf ci)).map (fun k => jfv G M c k (jkd ci k))).set k (.int x)))) → va_S (jA G) s.heap H1 locs1 → W p (jl G) e rm s m args below meth c0 H1 locs1 (jcs Y) (jss Y) (Q below args s) (F0 m (pc + 3) la st) := by
    intro H1 locs1 a1 a2 a3
    rw [hset] at a1
    exact K p e s m args below meth c0 H1 locs1 la rm F hF (hW.upd F.2.2.2.2.2.2.2.2.1 hS a1 a3) a3 hl
  rcases hlk with hlk | ⟨host, hlk⟩
  · exact va_put F.1 F.2.1 (own := (jy Y).cls) (ref := C) F.2.2.2.2.1 hin ty0 hty hnm F.2.2.2.1 F.K hW.1 (jwl_D F.gl) hS (c - 1) he hcl k hk (F.2.2.2.2.1 _ hlk) (fun x hx => by rw [hT] at hx; exact hx) hfin hdesc hn hfit (by rw [List.length_map, List.length_range]; omega) hd KK
  · exact va_putN F.1 F.2.1 (own := (jy Y).cls) (ref := C) (host := host) F.2.2.2.2.1 hin ty0 hty hnm F.2.2.2.1 F.K hW.1 (jwl_D F.gl) hS (c - 1) he hcl k hk (va_Nw.use rfl (F.ne hlk)) (fun x hx => by rw [hT] at hx; exact hx) hfin hdesc hn hfit (by rw [List.length_map, List.length_range]; omega) hd KK
theorem J.putf2 {index ci k c : Nat} {n : Nat} {ty : FieldType} (hd : decode (jcc Y) pc = .ok (.putfield index, 3)) (hf : jFl (jy Y).cls index ci k) (hp : jFp ci k ty) (hc : 0 < c ∧ c ≤ jK G ∧ jtag c = 0 ∧ jpar c = ci) (hk0 : jkd ci k = 2) (hn9 : n < 2 ^ 31) (hn : narrow ty (jr G n) = jr G n) (hfit : fits ty (jr G n) = true) (K : JQ G Y (pc + 3) ls st (jup M c k (Int32.ofNat n)) Q) : JQ G Y pc ls (jr G n :: jr G c :: st) M Q := by
  intro p e s m args below meth c0 H locs la rm F hF hW hS hl
  obtain ⟨C, T, N, hcl, hk, hN, hin, hT, hlk⟩ := hf
  obtain ⟨C', T', N', ty0, hcl', hty, hnm, hfin, hdesc⟩ := hp
  cases hcl.symm.trans hcl'
  obtain ⟨h0, h1, h2, h3⟩ := hc
  rw [jr_pos (n := c) h0]
  have hclamp : (Int32.ofNat n).toNatClampNeg = n := nI_clamp hn9
  have he := jwl_at (M := M) h0 h1
  rw [jent_obj h2, h3] at he
  have hset : (jwl G M).set (c - 1) (jad G c, .inr (ci, ((List.range (jnf ci)).map (fun k => jfv G M c k (jkd ci k))).set k (jr G n))) = jwl G (jup M c k (Int32.ofNat n)) := by
    refine jwl_set h0 ?_ (fun c' hc' => jent_ne (jup_ne hc'))
    rw [jent_obj h2, h3]
    congr 2
    refine (jmap_set (g := fun k' => jfv G (jup M c k (Int32.ofNat n)) c k' (jkd ci k')) ?_ (fun j hj => ?_)).symm
    · simp only [hk0, jfv, jup, and_self, if_true, hclamp]
    · simp only [jfv, jup, hj, and_false, if_false]
  have KK : ∀ (H1 : Heap) (locs1 : List Loc), va_P (jD G) jcl ((jwl G M).set (c - 1) (jad G c, .inr (ci, ((List.range (jnf ci)).map (fun k => jfv G M c k (jkd ci k))).set k (jr G n)))) H1 → va_D (jA G) ((jwl G M).set (c - 1) (jad G c, .inr (ci, ((List.range (jnf ci)).map (fun k => jfv G M c k (jkd ci k))).set k (jr G n)))) → va_S (jA G) s.heap H1 locs1 → W p (jl G) e rm s m args below meth c0 H1 locs1 (jcs Y) (jss Y) (Q below args s) (F0 m (pc + 3) la st) := by
    intro H1 locs1 a1 a2 a3
    rw [hset] at a1
    exact K p e s m args below meth c0 H1 locs1 la rm F hF (hW.upd F.2.2.2.2.2.2.2.2.1 hS a1 a3) a3 hl
  rcases hlk with hlk | ⟨host, hlk⟩
  · exact va_put F.1 F.2.1 (own := (jy Y).cls) (ref := C) F.2.2.2.2.1 hin ty0 hty hnm F.2.2.2.1 F.K hW.1 (jwl_D F.gl) hS (c - 1) he hcl k hk (F.2.2.2.2.1 _ hlk) (fun x hx => by rw [hT] at hx; exact hx) hfin hdesc hn hfit (by rw [List.length_map, List.length_range]; omega) hd KK
  · exact va_putN F.1 F.2.1 (own := (jy Y).cls) (ref := C) (host := host) F.2.2.2.2.1 hin ty0 hty hnm F.2.2.2.1 F.K hW.1 (jwl_D F.gl) hS (c - 1) he hcl k hk (va_Nw.use rfl (F.ne hlk)) (fun x hx => by rw [hT] at hx; exact hx) hfin hdesc hn hfit (by rw [List.length_map, List.length_range]; omega) hd KK
theorem jent_arr1 {M : jMem} {c : Nat} (h : jtag c = 1) : jent G M c = .inl (jcA G 0, jpar c, .inl (M c)) := by
  unfold jent
  rw [h]
  rfl
theorem jent_arr2 {M : jMem} {c : Nat} (h : jtag c = 2) : jent G M c = .inl (jcA G 1, jpar c, .inl (M c)) := by
  unfold jent
  rw [h]
  rfl
theorem jent_arr3 {M : jMem} {c : Nat} (h : jtag c = 3) : jent G M c = .inl (jcA G 2, jpar c, .inr (.inr (.inr (.inr (fun i => jro G (jF G c i)))))) := by
  unfold jent
  rw [h]
  rfl
theorem jent_arr4 {M : jMem} {c : Nat} (h : jtag c = 4) : jent G M c = .inl (jcA G 3, jpar c, .inr (.inr (.inr (.inr (fun i => jro G (M c i).toNatClampNeg))))) := by
  unfold jent
  rw [h]
  rfl
theorem jlen_tag {t c : Nat} {i : Int32} (h : vp_in i (jlen t c)) : jtag c = t ∧ vp_in i (jpar c) := by
  unfold jlen at h
  by_cases q : jtag c = t
  · rw [if_pos q] at h
    exact ⟨q, h⟩
  · rw [if_neg q] at h
    exact absurd (Or.inr (Nat.zero_le _)) h
theorem J.iald {c : Nat} {i : Int32} (hd : decode (jcc Y) pc = .ok (.iaload, 1)) (hc : 0 < c ∧ c ≤ jK G) (hin : vp_in i (jlen 1 c)) (K : JQ G Y (pc + 1) ls (.int (M c i.toNatClampNeg) :: st) M Q) : JQ G Y pc ls (.int i :: jr G c :: st) M Q := by
  intro p e s m args below meth c0 H locs la rm F hF hW hS hl
  obtain ⟨ht, hin⟩ := jlen_tag hin
  rw [jr_pos hc.1]
  have he := jwl_at (M := M) hc.1 hc.2
  rw [jent_arr1 ht] at he
  exact va_iald F.1 F.2.1 F.K hW.1 (c - 1) 0 he rfl hin hd (K p e s m args below meth c0 H locs la rm F hF hW hS hl)
theorem J.zald {c : Nat} {i : Int32} (hd : decode (jcc Y) pc = .ok (.baload, 1)) (hc : 0 < c ∧ c ≤ jK G) (hin : vp_in i (jlen 2 c)) (K : JQ G Y (pc + 1) ls (.int (M c i.toNatClampNeg) :: st) M Q) : JQ G Y pc ls (.int i :: jr G c :: st) M Q := by
  intro p e s m args below meth c0 H locs la rm F hF hW hS hl
  obtain ⟨ht, hin⟩ := jlen_tag hin
  rw [jr_pos hc.1]
  have he := jwl_at (M := M) hc.1 hc.2
  rw [jent_arr2 ht] at he
  exact va_zald F.1 F.2.1 F.K hW.1 (c - 1) 1 he rfl hin hd (K p e s m args below meth c0 H locs la rm F hF hW hS hl)
theorem J.iast {c : Nat} {i x : Int32} (hd : decode (jcc Y) pc = .ok (.iastore, 1)) (hc : 0 < c ∧ c ≤ jK G) (hin : vp_in i (jlen 1 c)) (K : JQ G Y (pc + 1) ls st (jup M c i.toNatClampNeg x) Q) : JQ G Y pc ls (.int x :: .int i :: jr G c :: st) M Q := by
  intro p e s m args below meth c0 H locs la rm F hF hW hS hl
  obtain ⟨ht, hin⟩ := jlen_tag hin
  rw [jr_pos hc.1]
  have he := jwl_at (M := M) hc.1 hc.2
  rw [jent_arr1 ht] at he
  refine va_iast F.1 F.2.1 F.K hW.1 (jwl_D F.gl) hS (c - 1) 0 he rfl hin hd (fun H1 locs1 a1 a2 a3 => ?_)
  rw [jwl_set (M' := jup M c i.toNatClampNeg x) hc.1 (by rw [jent_arr1 ht, jup_row]) (fun c' hc' => jent_ne (jup_ne hc'))] at a1
  exact K p e s m args below meth c0 H1 locs1 la rm F hF (hW.upd F.2.2.2.2.2.2.2.2.1 hS a1 a3) a3 hl
/-- a number as a row of boolean keeps it -/
def jbz (x : Int32) : Int32 := vp_nar .boolean x
theorem J.zast {c : Nat} {i x : Int32} (hd : decode (jcc Y) pc = .ok (.bastore, 1)) (hc : 0 < c ∧ c ≤ jK G) (hin : vp_in i (jlen 2 c)) (K : JQ G Y (pc + 1) ls st (jup M c i.toNatClampNeg (jbz x)) Q) : JQ G Y pc ls (.int x :: .int i :: jr G c :: st) M Q := by
  intro p e s m args below meth c0 H locs la rm F hF hW hS hl
  obtain ⟨ht, hin⟩ := jlen_tag hin
  rw [jr_pos hc.1]
  have he := jwl_at (M := M) hc.1 hc.2
  rw [jent_arr2 ht] at he
  refine va_zast F.1 F.2.1 F.K hW.1 (jwl_D F.gl) hS (c - 1) 1 he rfl hin hd (fun H1 locs1 a1 a2 a3 => ?_)
  rw [jwl_set (M' := jup M c i.toNatClampNeg (jbz x)) hc.1 (by rw [jent_arr2 ht, jup_row]; rfl) (fun c' hc' => jent_ne (jup_ne hc'))] at a1
  exact K p e s m args below meth c0 H1 locs1 la rm F hF (hW.upd F.2.2.2.2.2.2.2.2.1 hS a1 a3) a3 hl
theorem J.aald3 {c n : Nat} {i : Int32} (hd : decode (jcc Y) pc = .ok (.aaload, 1)) (hc : 0 < c ∧ c ≤ jK G) (hin : vp_in i (jlen 3 c)) (hv : jF G c i.toNatClampNeg = n) (K : JQ G Y (pc + 1) ls (jr G n :: st) M Q) : JQ G Y pc ls (.int i :: jr G c :: st) M Q := by
  intro p e s m args below meth c0 H locs la rm F hF hW hS hl
  obtain ⟨ht, hin⟩ := jlen_tag hin
  subst hv
  rw [jr_pos hc.1]
  have he := jwl_at (M := M) hc.1 hc.2
  rw [jent_arr3 ht] at he
  have hlt : i.toNatClampNeg < jpar c := Nat.not_le.mp fun q => hin (Or.inr q)
  exact W.aald (v := jr G (jF G c i.toNatClampNeg)) (ty := .array .int) F.1 F.2.1 (hW.1 _ _ he) ((F.K.2 2 _ rfl).1 (jpar c) (fun j => va_rf (jro G (jF G c j)))) rfl (fun q => by cases q) (by show ¬ (i < 0 ∨ (arrV _ _ _).slots.size ≤ _); rw [arrV_size]; exact hin) (by show (arrV _ _ _).slots[_]? = _; rw [arrV_read _ _ hlt]; rfl) rfl rfl hd (K p e s m args below meth c0 H locs la rm F hF hW hS hl)
theorem J.aald4 {c : Nat} {i : Int32} (hd : decode (jcc Y) pc = .ok (.aaload, 1)) (hc : 0 < c ∧ c ≤ jK G) (hin : vp_in i (jlen 4 c)) (K : JQ G Y (pc + 1) ls (jr G (M c i.toNatClampNeg).toNatClampNeg :: st) M Q) : JQ G Y pc ls (.int i :: jr G c :: st) M Q := by
  intro p e s m args below meth c0 H locs la rm F hF hW hS hl
  obtain ⟨ht, hin⟩ := jlen_tag hin
  rw [jr_pos hc.1]
  have he := jwl_at (M := M) hc.1 hc.2
  rw [jent_arr4 ht] at he
  exact va_aldq F.1 F.2.1 F.K hW.1 (c - 1) 3 he rfl hin hd (K p e s m args below meth c0 H locs la rm F hF hW hS hl)
theorem J.alen {t c : Nat} {ty : FieldType} {v : Int32} (hd : decode (jcc Y) pc = .ok (.arraylength, 1)) (hc : 0 < c ∧ c ≤ jK G) (ht : jtag c = 1 ∨ jtag c = 2 ∨ jtag c = 4) (hv : Int32.ofNat (jpar c) = v) (K : JQ G Y (pc + 1) ls (.int v :: st) M Q) : JQ G Y pc ls (jr G c :: st) M Q := by
  intro p e s m args below meth c0 H locs la rm F hF hW hS hl
  rw [jr_pos hc.1]
  have he := jwl_at (M := M) hc.1 hc.2
  have KK := K p e s m args below meth c0 H locs la rm F hF hW hS hl
  rcases ht with ht | ht | ht
  · rw [jent_arr1 ht] at he
    exact va_alen F.1 F.2.1 F.K hW.1 (c - 1) 0 he rfl hv hd KK
  · rw [jent_arr2 ht] at he
    exact va_alen F.1 F.2.1 F.K hW.1 (c - 1) 1 he rfl hv hd KK
  · rw [jent_arr4 ht] at he
    exact va_alen F.1 F.2.1 F.K hW.1 (c - 1) 3 he rfl hv hd KK
/-- a reference to a constant of the enum -/
abbrev jtk (n : Nat) : Prop := 1001 ≤ n ∧ n ≤ 1033
theorem jFx.co {p : Program} {s : State} {m : MethodId} {args : Array Value} {meth : Method} {c : Code} {H : Heap} {locs : List Loc} (F : jFx G Y p s m args meth c) (hW : jWd G M H) (hS : va_S (jA G) s.heap H locs) : jCo G s s.heap := by
  refine jCo.moved F.2.2.2.2.2.2.2.1 (jCo.kept F.gl.2.2.2.2 (fun a h1 h2 => ?_))
  have hlt : a < jL G := Nat.not_le.mp h2
  rw [← hW.2.2 a hlt]
  exact (hS.2.1 a (Nat.lt_of_lt_of_le hlt F.2.2.2.2.2.2.2.2.1) h2).symm
theorem jFx.En {p : Program} {s : State} {m : MethodId} {args : Array Value} {meth : Method} {c : Code} {H : Heap} {locs : List Loc} (F : jFx G Y p s m args meth c) (hW : jWd G M H) (hS : va_S (jA G) s.heap H locs) : va_En "CitingLetters$Token" "LCitingLetters$Token;" jtokN jtokF (fun i => jad G (1001 + i)) (jA G) s s.heap := (F.co hW hS).1
theorem J.gets {index i : Nat} {nm : String} (hd : decode (jcc Y) pc = .ok (.getstatic index, 3)) (hi : i < 33) (hn : jtokN.getD i "" = nm) (hl0 : Cond.fieldLink (jy Y).cls index "CitingLetters$Token" nm "LCitingLetters$Token;" ∈ jw) (K : JQ G Y (pc + 3) ls (jr G (1001 + i) :: st) M Q) : JQ G Y pc ls st M Q := by
  intro p e s m args below meth c0 H locs la rm F hF hW hS hl
  subst hn
  have K := K p e s m args below meth c0 H locs la rm F hF hW hS hl
  rw [jr_pos (by omega)] at K
  exact va_gets F.1 F.2.1 ((F.En hW hS).1 i hi).1 hS F.2.2.2.1 (F.2.2.2.2.1 _ hl0) (fun x hx => hx) hd K
theorem J.getk {index n : Nat} {q : String × String × String × List Int32} (hd : decode (jcc Y) pc = .ok (.getfield index, 3)) (hn : jtk n) (hq : q ∈ jtokF) (hl0 : Cond.fieldLink (jy Y).cls index q.1 q.2.1 q.2.2.1 ∈ jw ∨ ∃ host, Cond.fieldLinkNest (jy Y).cls index q.1 q.2.1 q.2.2.1 host ∈ jnest) (K : JQ G Y (pc + 3) ls (.int (q.2.2.2.getD (n - 1001) 0) :: st) M Q) : JQ G Y pc ls (jr G n :: st) M Q := by
  intro p e s m args below meth c0 H locs la rm F hF hW hS hl
  have K := K p e s m args below meth c0 H locs la rm F hF hW hS hl
  rw [jr_pos (by have := hn.1; omega)]
  have e1 : jad G n = jad G (1001 + (n - 1001)) := by rw [Nat.add_sub_cancel' hn.1]
  have hi : n - 1001 < jtokN.length := by
    have h1 := hn.1
    have h2 := hn.2
    show n - 1001 < 33
    omega
  obtain ⟨cf, k, fi, f, cell, h1, h2, h3, h4, h5, h6⟩ := (((F.En hW hS).1 _ hi).2.2 q hq).kept hS.2.1
  rw [e1]
  rcases hl0 with hl0 | ⟨host, hl0⟩
  · exact W.getf F.1 F.2.1 F.2.2.2.1 (F.2.2.2.2.1 _ hl0) h1 h2 h3 h4 (v := .int (q.2.2.2.getD (n - 1001) 0)) h5 rfl rfl hd K
  · exact va_Wgetf F.1 F.2.1 F.2.2.2.1 (va_Nw.use rfl (F.ne hl0)) h1 h2 h3 h4 (v := .int (q.2.2.2.getD (n - 1001) 0)) h5 rfl rfl hd K
/-- a reference that two may be compared of -/
abbrev jok (n : Nat) : Prop := n = 0 ∨ jtk n
theorem jro_inj {s : State} {m : MethodId} {p : Program} {args : Array Value} {meth : Method} {c : Code} {H : Heap} {locs : List Loc} (F : jFx G Y p s m args meth c) (hW : jWd G M H) (hS : va_S (jA G) s.heap H locs) {a b : Nat} (ha : jok a) (hb : jok b) : jro G a = jro G b ↔ a = b := by
  refine ⟨fun h => ?_, fun h => by rw [h]⟩
  unfold jro at h
  rcases ha with rfl | ha <;> rcases hb with rfl | hb
  · rfl
  · rw [if_pos rfl, if_neg (by have := hb.1; omega)] at h
    cases h
  · rw [if_pos rfl, if_neg (by have := ha.1; omega)] at h
    cases h
  · rw [if_neg (by have := ha.1; omega), if_neg (by have := hb.1; omega)] at h
    have h1 := Option.some.inj h
    obtain ⟨a1, a2⟩ := ha
    obtain ⟨b1, b2⟩ := hb
    have h2 := (F.En hW hS).2 (a - 1001) (b - 1001) (by show _ < 33; omega) (by show _ < 33; omega) (by show jad G (1001 + (a - 1001)) = jad G (1001 + (b - 1001)); rw [Nat.add_sub_cancel' a1, Nat.add_sub_cancel' b1]; exact h1)
    omega
theorem J.acmp_eq {a b : Nat} {off : Int} (tgt : Nat) (hd : decode (jcc Y) pc = .ok (.if_acmp .eq off, 3)) (ht : (pc : Int) + off = (tgt : Int)) (ha : jok a) (hb : jok b) (Kt : a = b → JQ G Y tgt ls st M Q) (Kf : ¬ a = b → JQ G Y (pc + 3) ls st M Q) : JQ G Y pc ls (jr G b :: jr G a :: st) M Q := by
  intro p e s m args below meth c H locs la rm F hF hW hS hl
  exact lv_acmp_eq F.1 F.2.1 hd ht (fun q => Kt ((jro_inj F hW hS ha hb).mp q) p e s m args below meth c H locs la rm F hF hW hS hl) (fun q => Kf (fun h => q ((jro_inj F hW hS ha hb).mpr h)) p e s m args below meth c H locs la rm F hF hW hS hl)
theorem J.acmp_ne {a b : Nat} {off : Int} (tgt : Nat) (hd : decode (jcc Y) pc = .ok (.if_acmp .ne off, 3)) (ht : (pc : Int) + off = (tgt : Int)) (ha : jok a) (hb : jok b) (Kt : ¬ a = b → JQ G Y tgt ls st M Q) (Kf : a = b → JQ G Y (pc + 3) ls st M Q) : JQ G Y pc ls (jr G b :: jr G a :: st) M Q := by
  intro p e s m args below meth c H locs la rm F hF hW hS hl
  exact lv_acmp_ne F.1 F.2.1 hd ht (fun q => Kt (fun h => q ((jro_inj F hW hS ha hb).mpr h)) p e s m args below meth c H locs la rm F hF hW hS hl) (fun q => Kf ((jro_inj F hW hS ha hb).mp q) p e s m args below meth c H locs la rm F hF hW hS hl)
theorem J.aast4 {c n : Nat} {i : Int32} (hd : decode (jcc Y) pc = .ok (.aastore, 1)) (hc : 0 < c ∧ c ≤ jK G) (hin : vp_in i (jlen 4 c)) (hn : jtk n) (K : JQ G Y (pc + 1) ls st (jup M c i.toNatClampNeg (Int32.ofNat n)) Q) : JQ G Y pc ls (jr G n :: .int i :: jr G c :: st) M Q := by
  intro p e s m args below meth c0 H locs la rm F hF hW hS hl
  obtain ⟨ht, hin⟩ := jlen_tag hin
  rw [jr_pos hc.1, jr_pos (by have := hn.1; omega)]
  have he := jwl_at (M := M) hc.1 hc.2
  rw [jent_arr4 ht] at he
  have hcl : (Int32.ofNat n).toNatClampNeg = n := nI_clamp (by have := hn.2; omega)
  have hr := va_recvE (F.En hW hS) (i := n - 1001) (by have h1 := hn.1; have h2 := hn.2; show n - 1001 < 33; omega) hS
  simp only [Nat.add_sub_cancel' hn.1] at hr
  refine vb_astq F.1 F.2.1 F.K hW.1 (jwl_D F.gl) hS (c - 1) 3 he rfl hr (fun comp c1 h1 h2 => by rw [h1] at h2; cases h2; exact va_asg _ _) hin hd (fun H1 locs1 a1 a2 a3 => ?_)
  rw [jwl_set (M' := jup M c i.toNatClampNeg (Int32.ofNat n)) hc.1 ?_ (fun c' hc' => jent_ne (jup_ne hc'))] at a1
  · exact K p e s m args below meth c0 H1 locs1 la rm F hF (hW.upd F.2.2.2.2.2.2.2.2.1 hS a1 a3) a3 hl
  · rw [jent_arr4 ht, jup_row]
    congr 7
    funext q
    unfold va_up upd
    by_cases hq : q = i.toNatClampNeg
    · rw [if_pos hq, if_pos hq, hcl]
      unfold jro
      rw [if_neg (by have := hn.1; omega)]
    · rw [if_neg hq, if_neg hq]
theorem J.iret {v : Int32} {ty : FieldType} (hd : decode (jcc Y) pc = .ok (.ireturn, 1)) (hr : jret Y = some ty) (hn : narrow ty (.int v) = .int v) (hR : R = (some (.int v), M)) : JQ G Y pc ls [.int v] M (jQof G Y R) := by
  intro p e s m args below meth c H locs la rm F hF hW hS hl
  subst hR
  exact W.zret F.1 F.2.1 (F.2.2.2.2.2.1.trans hr) hn (fun t ht _ => ⟨rfl, by rw [ht]; exact hW, by rw [ht]; exact hS.1⟩) hS.2.2 hd F.2.2.2.2.2.2.1
theorem J.vret (hd : decode (jcc Y) pc = .ok (.return_, 1)) (hr : jret Y = none) (hR : R = (none, M)) : JQ G Y pc ls [] M (jQof G Y R) := by
  intro p e s m args below meth c H locs la rm F hF hW hS hl
  subst hR
  exact W.vret F.1 F.2.1 (F.2.2.2.2.2.1.trans hr) (fun t ht _ => ⟨rfl, by rw [ht]; exact hW, by rw [ht]; exact hS.1⟩) hS.2.2 hd F.2.2.2.2.2.2.1
theorem J.aret {n : Nat} {C : String} (hd : decode (jcc Y) pc = .ok (.areturn, 1)) (hr : jret Y = some (.object C)) (hR : R = (some (jr G n), M)) : JQ G Y pc ls [jr G n] M (jQof G Y R) := by
  intro p e s m args below meth c H locs la rm F hF hW hS hl
  subst hR
  exact W.aret F.1 F.2.1 (F.2.2.2.2.2.1.trans hr) (Or.inl ⟨C, rfl⟩) (jr_or G n) (fun t ht _ => ⟨rfl, by rw [ht]; exact hW, by rw [ht]; exact hS.1⟩) hS.2.2 hd F.2.2.2.2.2.2.1
/-- a call that came back -/
theorem J.back {p : Program} {e : Env} {s : State} {m : MethodId} {args : Array Value} {below : List Frame} {meth : Method} {c : Code} {H : Heap} {locs : List Loc} {la : Array Slot} {rest : List Value} {a : Array Value} {rv : Option Value} {M1 : jMem} {mc ms : Nat} {rm : Room} (hmc : mc = 0) (hms : ms = 0) (F : jFx G Y p s m args meth c) (hF : jFit Y rm) (hW : jWd G M H) (hS : va_S (jA G) s.heap H locs) (hl : lv_has la (jnL Y) ls)
    (hr : va_Run p (jl G) e rm s m args below meth c H locs (jcs Y) (jss Y) mc ms (F0 m pc la st) rest (jQc G (rv, M1) a) (jA G)) (K : JQ G Y (pc + 3) ls (rv.toList ++ rest) M1 Q) : W p (jl G) e rm s m args below meth c H locs (jcs Y) (jss Y) (Q below args s) (F0 m pc la st) := by
  subst hmc
  subst hms
  intro T hT X
  obtain ⟨v, st₀, t, T', L, h0, X', hL, e1, e2, ⟨hv, hw, hsz0⟩, hgo⟩ := hr T hT X
  cases hv
  have hsz : s.heap.size ≤ t.heap.size := by
    rw [h0] at hsz0
    exact Nat.le_trans hS.1 hsz0
  have hS' : va_S (jA G) s.heap t.heap (locs ++ L) := by
    refine ⟨hsz, fun q h1 h2 => ?_, fun q hq => ?_⟩
    · have hlt : q < jL G := Nat.not_le.mp h2
      rw [hw.2.2 q hlt, ← hW.2.2 q hlt]
      exact hS.2.1 q h1 h2
    · rcases List.mem_append.mp hq with h | h
      · exact hS.2.2 q h
      · exact hL q h
  obtain ⟨t2, a1, b1⟩ := K p e s m args below meth c t.heap (locs ++ L) la rm F hF hw hS' hl T' e1 X'
  exact ⟨t2, hgo t2 a1, b1⟩
theorem jPc_blind {av : List Value} : FrameBlind (jPc G av M) := fun a U g mk h => ⟨h.1, h.2.1, h.2.2.1, jSt.same (u := U) (U := U.calling g mk a) rfl h.2.2.2⟩
theorem J.callV (Z : jY) {index c : Nat} {As rest : List Value} {rv : Option Value} {M1 : jMem} (hd : decode (jcc Y) pc = .ok (.invokevirtual index, 3)) (hm : jMi (jy Z) (jcc Z) (jnL Z) (jret Z) As.length) (hv : jMv (jy Z)) (hlk : jLk (jy Y).cls index (jy Z)) (hz : jcs Z = 0 ∧ jss Z = 0 ∧ jd Z + 1 ≤ jd Y)
    (hc : 0 < c ∧ c ≤ jK G ∧ jtag c = 0 ∧ ∃ T N, jcl[jpar c]? = some ((jy Z).cls, T, N)) (hct : jCt G Z (jr G c :: As) M (rv, M1)) (hst : st = As.reverse ++ jr G c :: rest) (hrs : (rest.map fun v => v.category).sum ≤ 8) (K : JQ G Y (pc + 3) ls (rv.toList ++ rest) M1 Q) : JQ G Y pc ls st M Q := by
  intro p e s m args below meth c0 H locs la rm F hF hW hS hl
  obtain ⟨hcode, hini, hdd, hnL, -⟩ := hm
  obtain ⟨hin, hse⟩ := hv
  obtain ⟨hz1, hz2, hz3⟩ := hz
  obtain ⟨h0, h1, h2, T, N, hT⟩ := hc
  have hM := hct F.gl
  have he := jwl_at (M := M) h0 h1
  rw [jent_obj h2] at he
  rw [jr_pos h0] at hst hM
  have hp : PreV s H (jy Z).cls (jad G c) (jPc G (.ref (jad G c) :: As) M) As := ⟨jPc_blind, va_recv F.K hW.1 hT he, fun U hU hWm => ⟨rfl, by rw [hU]; exact hW, F.2.2.2.2.2.2.2.1.trans hWm.alike, F.stt.warm hWm⟩⟩
  have hroom : (jrm (jd Z) (jcs Z) (jss Z)).frames + 1 ≤ rm.frames ∧ 8 + (jnL Z + 11) + (jrm (jd Z) (jcs Z) (jss Z)).locals ≤ rm.locals := by
    obtain ⟨q1, q2, q3, q4⟩ := hF
    unfold jrm
    dsimp only
    omega
  have hfit : jcs Y + jcs Z ≤ rm.cells ∧ jss Y + jss Z ≤ rm.slots := by
    obtain ⟨q1, q2, q3, q4⟩ := hF
    omega
  subst hst
  have hts := F.2.2.2.2.1
  rcases hlk with hlk | ⟨host, hlk⟩
  · exact J.back hz1 hz2 F hF hW hS hl (va_runV (As := As) (rest := rest) ⟨F.1, F.2.1, F.2.2.1, F.2.2.2.1, hts⟩ hM ⟨callB_of As.length hts (jws_GI hcode) rfl rfl rfl (hts _ hini) (hts _ hlk) hdd hroom, hts _ hin, hts _ hse⟩ hp rfl rfl hl.1 rfl (lv_room hrs) hd hfit) K
  · exact J.back hz1 hz2 F hF hW hS hl (va_runVN (As := As) (rest := rest) (host := host) ⟨F.1, F.2.1, F.2.2.1, F.2.2.2.1, hts⟩ hM ⟨va_cnB As.length hts (jws_GI hcode) rfl rfl rfl (F.ne hlk) (hts _ hini) hdd hroom, hts _ hin, hts _ hse⟩ hp rfl rfl hl.1 rfl (lv_room hrs) hd hfit) K
theorem J.callS (Z : jY) {index : Nat} {As rest : List Value} {rv : Option Value} {M1 : jMem} (hd : decode (jcc Y) pc = .ok (.invokestatic index, 3)) (hm : jMi (jy Z) (jcc Z) (jnL Z) (jret Z) As.length) (hv : jMs (jy Z)) (hlk : jLk (jy Y).cls index (jy Z)) (hz : jcs Z = 0 ∧ jss Z = 0 ∧ jd Z + 1 ≤ jd Y)
    (hct : jCt G Z As M (rv, M1)) (hst : st = As.reverse ++ rest) (hrs : (rest.map fun v => v.category).sum ≤ 8) (K : JQ G Y (pc + 3) ls (rv.toList ++ rest) M1 Q) : JQ G Y pc ls st M Q := by
  intro p e s m args below meth c0 H locs la rm F hF hW hS hl
  obtain ⟨hcode, hini, hdd, hnL, -⟩ := hm
  obtain ⟨hz1, hz2, hz3⟩ := hz
  have hM := hct F.gl
  have hp : PreS s H (jPc G As M) As := ⟨jPc_blind, fun U hU hWm => ⟨rfl, by rw [hU]; exact hW, F.2.2.2.2.2.2.2.1.trans hWm.alike, F.stt.warm hWm⟩⟩
  have hroom : (jrm (jd Z) (jcs Z) (jss Z)).frames + 1 ≤ rm.frames ∧ 8 + (jnL Z + 11) + (jrm (jd Z) (jcs Z) (jss Z)).locals ≤ rm.locals := by
    obtain ⟨q1, q2, q3, q4⟩ := hF
    unfold jrm
    dsimp only
    omega
  have hfit : jcs Y + jcs Z ≤ rm.cells ∧ jss Y + jss Z ≤ rm.slots := by
    obtain ⟨q1, q2, q3, q4⟩ := hF
    omega
  subst hst
  have hts := F.2.2.2.2.1
  rcases hlk with hlk | ⟨host, hlk⟩
  · exact J.back hz1 hz2 F hF hW hS hl (va_runS (As := As) (rest := rest) ⟨F.1, F.2.1, F.2.2.1, F.2.2.2.1, hts⟩ hM ⟨callB_of As.length hts (jws_GI hcode) rfl rfl rfl (hts _ hini) (hts _ hlk) hdd hroom, hts _ hv⟩ hp rfl rfl hl.1 rfl (lv_room hrs) hd hfit) K
  · exact J.back hz1 hz2 F hF hW hS hl (va_runSN (As := As) (rest := rest) (host := host) ⟨F.1, F.2.1, F.2.2.1, F.2.2.2.1, hts⟩ hM ⟨va_cnB As.length hts (jws_GI hcode) rfl rfl rfl (F.ne hlk) (hts _ hini) hdd hroom, hts _ hv, trivial⟩ hp rfl rfl hl.1 rfl (lv_room hrs) hd hfit) K
/-- a contract out of a walk -/
theorem jCt.of {av : List Value} {n : Nat} (hm : jMi (jy Y) (jcc Y) (jnL Y) (jret Y) n) (hlen : (lg_sl av).length ≤ jnL Y) (h : J G Y 0 (lv_args 0 av) [] M R) (hz : jcs Y = 0 ∧ jss Y = 0) : jCt G Y av M R := by
  intro hG
  refine Met.ofW (cc := jcc Y) (maxL := jnL Y) (ret := jret Y) hm.2.2.2.2 rfl ?_
  intro p e s m args below meth c s₁ B hml hv
  obtain ⟨rfl, hW, hal, hne⟩ := hv
  have hts := atoms_spec (ws := jws Y) B.pre
  have hown : s.vm.findClass (jy Y).cls = some m.cls := findClass_of_methodNamed B.named
  have F : jFx G Y p s m av.toArray meth c := ⟨B.exec, B.bytes, hml, hown, fun w hw => hts w (List.mem_cons_of_mem _ hw), B.returns, B.notSynchronized, hal, hW.2.1, hG, hne⟩
  rw [lg_entry_eq]
  have K := h p e s m av.toArray below meth c s.heap [] _ (jrm (jd Y) (jcs Y) (jss Y)) F ⟨Nat.le_refl _, Nat.le_refl _, Nat.le_refl _, Nat.le_refl _⟩ hW va_S.rf (lv_entry av hlen)
  dsimp only [jQof] at K
  rw [hz.1, hz.2] at K ⊢
  exact K
theorem J.mmin {x y : Int32} {index : Nat} (hd : decode (jcc Y) pc = .ok (.invokestatic index, 3)) (hlk : Cond.methodLink (jy Y).cls index Lib.Math.min.name ∈ jw) (hs : Cond.static Lib.Math.min.name ∈ jw) (hi : Cond.initialized "java/lang/Math" ∈ jw) (hc : Cond.code Lib.Math.min.name Lib.Math.min.code 2 (some .int) ∈ jw) (hrs : (st.map fun v => v.category).sum ≤ 8) (K : JQ G Y (pc + 3) ls (.int (if y < x then y else x) :: st) M Q) : JQ G Y pc ls (.int y :: .int x :: st) M Q := by
  intro p e s m args below meth c H locs la rm F hF hW hS hl
  exact va_mmin F.1 F.2.1 (F.2.2.1.trans hl.1.symm) F.2.2.2.1 (F.2.2.2.2.1 _ hlk) (F.2.2.2.2.1 _ hs) (F.2.2.2.2.1 _ hi) (F.2.2.2.2.1 _ hc) (by have := hF.1; omega) (by have := hF.2.2.2; omega) hF.2.1 hF.2.2.1 hd (K p e s m args below meth c H locs la rm F hF hW hS hl)
theorem J.mmax {x y : Int32} {index : Nat} (hd : decode (jcc Y) pc = .ok (.invokestatic index, 3)) (hlk : Cond.methodLink (jy Y).cls index Lib.Math.max.name ∈ jw) (hs : Cond.static Lib.Math.max.name ∈ jw) (hi : Cond.initialized "java/lang/Math" ∈ jw) (hc : Cond.code Lib.Math.max.name Lib.Math.max.code 2 (some .int) ∈ jw) (hrs : (st.map fun v => v.category).sum ≤ 8) (K : JQ G Y (pc + 3) ls (.int (if x < y then y else x) :: st) M Q) : JQ G Y pc ls (.int y :: .int x :: st) M Q := by
  intro p e s m args below meth c H locs la rm F hF hW hS hl
  exact va_mmax F.1 F.2.1 (F.2.2.1.trans hl.1.symm) F.2.2.2.1 (F.2.2.2.2.1 _ hlk) (F.2.2.2.2.1 _ hs) (F.2.2.2.2.1 _ hi) (F.2.2.2.2.1 _ hc) (by have := hF.1; omega) (by have := hF.2.2.2; omega) hF.2.1 hF.2.2.1 hd (K p e s m args below meth c H locs la rm F hF hW hS hl)
end JR
