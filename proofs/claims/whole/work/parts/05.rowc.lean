/-! constructors: the world grows; k cells stand, F is what the references that stay hold by now -/
def jGk (G : jG) (k : Nat) (F : Nat → Nat → Nat) : jG := (jl G, jad G, jD G, jcA G, jL G, js0 G, k, F)
def jfup (F : Nat → Nat → Nat) (c i n : Nat) : Nat → Nat → Nat := fun c' i' => if c' = c ∧ i' = i then n else F c' i'
/-- the addresses follow each other from the old heap's end on -/
def jSeq (G : jG) : Prop := jK G = jKall ∧ jF G = jfx ∧ ∀ i, i < jKall → jad G (i + 1) = jL G + i
abbrev jRC : Type := Nat × (Nat → Nat → Nat) × jMem
def jQC (G : jG) (R : jRC) : Array Value → State → Outcome → State → Prop := fun _ st o t => o = .returned none ∧ jWd (jGk G R.1 R.2.1) R.2.2 t.heap ∧ st.heap.size ≤ t.heap.size
def JC (G : jG) (Y : jY) (k0 : Nat) (pc : Nat) (ls : List (Nat × Value)) (st : List Value) (k sl : Nat) (F : Nat → Nat → Nat) (M : jMem) (R : jRC) : Prop :=
  ∀ (p : Program) (e : Env) (s : State) (m : MethodId) (args : Array Value) (below : List Frame) (meth : Method) (c : Code) (H : Heap) (locs : List Loc) (la : Array Slot),
    jFx G Y p s m args meth c → jSeq G → meth.name = "<init>" → s.heap.size = jL G + k0 → k0 ≤ k → k ≤ jKall → jWd (jGk G k F) M H → va_S (jA G) s.heap H locs → lv_has la (jnL Y) ls →
    W p (jl G) e (jrm (jd Y) (jcs Y) (jss Y)) s m args below meth c H locs (k - k0) sl (MQ below (jQC G R) args s (jcs Y) (jss Y) (jA G)) (F0 m pc la st)
def jPC (G : jG) (av : List Value) (k : Nat) (F : Nat → Nat → Nat) (M : jMem) : Array Value → State → Prop := fun a U => a = av.toArray ∧ jWd (jGk G k F) M U.heap ∧ U.heap.size = jL G + k ∧ (js0 G).vm.Alike U.vm ∧ jSt G U
def jCC (G : jG) (Y : jY) (av : List Value) (k : Nat) (F : Nat → Nat → Nat) (M : jMem) (R : jRC) : Prop :=
  jGl G → jSeq G → Met (jl G) (jy Y) (jws Y) (jrm (jd Y) (jcs Y) (jss Y)) (jPC G av k F M) (jQC G R) (jcs Y) (jss Y) (jA G)
theorem jGk_self {G : jG} (h : jSeq G) : jGk G jKall jfx = G := by
  obtain ⟨a, b, c, d, e, f, g, i⟩ := G
  obtain ⟨h1, h2, -⟩ := h
  have h1 : g = jKall := h1
  have h2 : i = jfx := h2
  subst h1
  subst h2
  rfl
theorem jGl_k {G : jG} (hg : jGl G) (hs : jSeq G) {k : Nat} (hk : k ≤ jKall) (F : Nat → Nat → Nat) : jGl (jGk G k F) := by
  obtain ⟨h1, h2, h3, h4, h5⟩ := hg
  refine ⟨h1, fun i j hi hj e => ?_, fun i hi => ?_, h4, h5⟩
  · have hi : i < k := hi
    have hj : j < k := hj
    have hK := hs.1
    exact h2 i j (by omega) (by omega) e
  · have hi : i < k := hi
    have hK := hs.1
    exact h3 i (by omega)
theorem jFx_k {G : jG} {Y : jY} {p : Program} {s : State} {m : MethodId} {args : Array Value} {meth : Method} {c : Code} (F0 : jFx G Y p s m args meth c) (hs : jSeq G) {k : Nat} (hk : k ≤ jKall) (F : Nat → Nat → Nat) : jFx (jGk G k F) Y p s m args meth c := by
  obtain ⟨h1, h2, h3, h4, h5, h6, h7, h8, h9, h10, h11⟩ := F0
  exact ⟨h1, h2, h3, h4, h5, h6, h7, h8, h9, jGl_k h10 hs hk F, h11⟩
/-- the heap's size, where k cells stand -/
theorem jWd_lo {G : jG} {k : Nat} {F : Nat → Nat → Nat} {M : jMem} {H : Heap} (hs : jSeq G) (hk : k ≤ jKall) (h : jWd (jGk G k F) M H) : jL G + k ≤ H.size := by
  rcases Nat.eq_zero_or_pos k with e | e
  · subst e
    exact h.2.1
  · have h1 := (h.1 _ _ (jwl_at (G := jGk G k F) (M := M) e (Nat.le_refl k))).lt
    have h2 : jad G (k - 1 + 1) = jL G + (k - 1) := hs.2.2 (k - 1) (by omega)
    rw [Nat.sub_add_cancel e] at h2
    have h1 : jad G k < H.size := h1
    omega
section JCR
variable {G : jG} {Y : jY} {k0 pc : Nat} {ls : List (Nat × Value)} {st : List Value} {k sl : Nat} {F : Nat → Nat → Nat} {M : jMem} {R : jRC}
theorem JC.iconst {n : Int} {v : Int32} (hd : decode (jcc Y) pc = .ok (.iconst n, 1)) (hv : Int32.ofInt n = v) (K : JC G Y k0 (pc + 1) ls (.int v :: st) k sl F M R) : JC G Y k0 pc ls st k sl F M R := by
  intro p e s m args below meth c H locs la X1 X2 X3 X4 X5 X6 hW hS hl
  exact lv_iconst X1.1 X1.2.1 hd hv (K p e s m args below meth c H locs la X1 X2 X3 X4 X5 X6 hW hS hl)
theorem JC.bipush {n : Int} {v : Int32} (hd : decode (jcc Y) pc = .ok (.bipush n, 2)) (hv : (Int8.ofInt n).toInt32 = v) (K : JC G Y k0 (pc + 2) ls (.int v :: st) k sl F M R) : JC G Y k0 pc ls st k sl F M R := by
  intro p e s m args below meth c H locs la X1 X2 X3 X4 X5 X6 hW hS hl
  exact lv_bipush X1.1 X1.2.1 hd hv (K p e s m args below meth c H locs la X1 X2 X3 X4 X5 X6 hW hS hl)
theorem JC.sipush {n : Int} {v : Int32} (hd : decode (jcc Y) pc = .ok (.sipush n, 3)) (hv : (Int16.ofInt n).toInt32 = v) (K : JC G Y k0 (pc + 3) ls (.int v :: st) k sl F M R) : JC G Y k0 pc ls st k sl F M R := by
  intro p e s m args below meth c H locs la X1 X2 X3 X4 X5 X6 hW hS hl
  exact lv_sipush X1.1 X1.2.1 hd hv (K p e s m args below meth c H locs la X1 X2 X3 X4 X5 X6 hW hS hl)
theorem JC.aload_n (q : Nat) {j : Fin 4} {i n : Nat} (hd : decode (jcc Y) pc = .ok (.aload_n j, 1)) (hi : (j : Nat) = i) (h : ls[q]? = some (i, jr G n)) (hn : 0 < n) (K : JC G Y k0 (pc + 1) ls (jr G n :: st) k sl F M R) : JC G Y k0 pc ls st k sl F M R := by
  intro p e s m args below meth c H locs la X1 X2 X3 X4 X5 X6 hW hS hl
  have K := K p e s m args below meth c H locs la X1 X2 X3 X4 X5 X6 hW hS hl
  rw [jr_pos hn] at h K
  exact lv_aload_n X1.1 X1.2.1 hd hi (lv_at hl q h) K
theorem JC.dup {va : Value} (hd : decode (jcc Y) pc = .ok (.dup, 1)) (ha : va.category = 1) (K : JC G Y k0 (pc + 1) ls (va :: va :: st) k sl F M R) : JC G Y k0 pc ls (va :: st) k sl F M R := by
  intro p e s m args below meth c H locs la X1 X2 X3 X4 X5 X6 hW hS hl
  exact lv_dup X1.1 X1.2.1 hd ha (K p e s m args below meth c H locs la X1 X2 X3 X4 X5 X6 hW hS hl)
theorem JC.nop {pc' : Nat} (h : pc = pc') (K : JC G Y k0 pc' ls st k sl F M R) : JC G Y k0 pc ls st k sl F M R := h ▸ K
theorem JC.objInit {index n : Nat} (hd : decode (jcc Y) pc = .ok (.invokespecial index, 3)) (hw : Cond.methodLink (jy Y).cls index Lib.objectInit ∈ jw ∧ Cond.instanceMethod Lib.objectInit ∈ jw ∧ Cond.code Lib.objectInit ⟨#[0xb1]⟩ 1 none ∈ jw) (hn : 0 < n) (hrs : (st.map fun v => v.category).sum ≤ 8) (K : JC G Y k0 (pc + 3) ls st k sl F M R) : JC G Y k0 pc ls (jr G n :: st) k sl F M R := by
  intro p e s m args below meth c H locs la X1 X2 X3 X4 X5 X6 hW hS hl
  rw [jr_pos hn]
  have hts := X1.2.2.2.2.1
  exact W.objInit X1.1 X1.2.1 X1.2.2.2.1 (hts _ hw.1) (hts _ hw.2.1) (hts _ hw.2.2) rfl (hl.1.trans X1.2.2.1.symm) rfl hd (by show 1 ≤ jd Y + 1; omega) (by show 2 * 0 + _ + 12 ≤ 40 * jd Y + 60; omega) (K p e s m args below meth c H locs la X1 X2 X3 X4 X5 X6 hW hS hl)
/-- a new cell stands at the heap's end -/
theorem jW_new {p : Program} {e : Env} {s : State} {m : MethodId} {args : Array Value} {below : List Frame} {meth : Method} {c : Code} {H1 : Heap} {locs : List Loc} {cells slots : Nat} {Q : State → Prop} {g : JFrame} {rm : Room} {l : Launch} (h : H1.size ≤ s.heap.size + cells → W p l e rm s m args below meth c H1 locs cells slots Q g) : W p l e rm s m args below meth c H1 locs cells slots Q g := by
  intro T hT X
  exact h (by have h1 := X.heapSize; rw [hT] at h1; exact h1) T hT X
theorem jwl_push {q : Nat} {en : va_E} (hs : jSeq G) (hk : k < jKall) {H H1 : Heap} (hP : va_P (jD G) jcl (jwl (jGk G k F) M ++ [(q, en)]) H1) (hD : va_D (jA G) (jwl (jGk G k F) M ++ [(q, en)])) (hz : H1.size ≤ jL G + (k + 1)) (hen : jent (jGk G (k + 1) F) M (k + 1) = en) : q = jL G + k ∧ va_P (jD G) jcl (jwl (jGk G (k + 1) F) M) H1 := by
  have hlen : (jwl (jGk G k F) M).length = k := by
    unfold jwl
    rw [List.length_map, List.length_range]
    rfl
  have hlast : (jwl (jGk G k F) M ++ [(q, en)])[k]? = some (q, en) := by
    rw [List.getElem?_append_right (by omega), hlen, Nat.sub_self]
    rfl
  have hq1 : jL G ≤ q := hD.2 k _ hlast
  have hq2 : q < H1.size := (hP k _ hlast).lt
  have hqe : q = jL G + k := by
    rcases Nat.lt_or_ge q (jL G + k) with hlt | hge
    · have hi : q - jL G < k := by omega
      have e2 := hs.2.2 (q - jL G) (by omega)
      have e3 : (jwl (jGk G k F) M ++ [(q, en)])[q - jL G]? = some (jad G (q - jL G + 1), jent (jGk G k F) M (q - jL G + 1)) := by
        rw [List.getElem?_append_left (by omega)]
        exact jwl_at (G := jGk G k F) (c := q - jL G + 1) (by omega) (by show q - jL G + 1 ≤ k; omega)
      have := hD.1 _ _ _ _ e3 hlast (by show jad G (q - jL G + 1) = q; rw [e2]; omega)
      omega
    · omega
  refine ⟨hqe, ?_⟩
  have he : jwl (jGk G (k + 1) F) M = jwl (jGk G k F) M ++ [(q, en)] := by
    unfold jwl
    show (List.range (k + 1)).map _ = (List.range k).map _ ++ _
    rw [List.range_succ, List.map_append]
    congr 1
    show [(jad G (k + 1), jent (jGk G (k + 1) F) M (k + 1))] = _
    rw [hen, hs.2.2 k hk, hqe]
  rw [he]
  exact hP
theorem JC.grow {H H1 : Heap} {locs : List Loc} {s : State} (hs0 : jL G ≤ s.heap.size) (hW : jWd (jGk G k F) M H) (hS : va_S (jA G) s.heap H locs) {M' : jMem} {k' : Nat} {F' : Nat → Nat → Nat} {locs1 : List Loc} (a1 : va_P (jD G) jcl (jwl (jGk G k' F') M') H1) (a3 : va_S (jA G) s.heap H1 locs1) : jWd (jGk G k' F') M' H1 :=
  ⟨a1, Nat.le_trans hs0 a3.1, fun q hq => by
    have hq : q < jL G := hq
    rw [a3.2.1 q (Nat.lt_of_lt_of_le hq hs0) (Nat.not_le.mpr hq), ← hS.2.1 q (Nat.lt_of_lt_of_le hq hs0) (Nat.not_le.mpr hq)]
    exact hW.2.2 q hq⟩
/-- the array's class is the one that the world's arrays of its kind have -/
theorem jK_cls {s : State} {ty : FieldType} {cA cB : ClassId} (h1 : va_RA s cA ty) (h2 : va_RA s cB ty) : cA = cB := by
  cases ty with
  | object C =>
    obtain ⟨_, _, -, -, -, e1⟩ := h1
    obtain ⟨_, _, -, -, -, e2⟩ := h2
    exact Option.some.inj (e1.symm.trans e2)
  | _ => exact Option.some.inj (Eq.trans (Eq.symm h1) h2)
theorem JC.newi {n : Int32} (hd : decode (jcc Y) pc = .ok (.newarray .int, 2)) (hw : Cond.arrayClass .int ∈ jw) (hk : k < jKall) (ht : jtag (k + 1) = 1 ∧ jpar (k + 1) = n.toNatClampNeg) (hM : ∀ i, M (k + 1) i = 0) (hn : ¬ n < 0) (hb : n.toNatClampNeg ≤ 5000) (hc : k - k0 + 1 ≤ jcs Y) (hs : sl + n.toNatClampNeg ≤ jss Y) (K : JC G Y k0 (pc + 2) ls (jr G (k + 1) :: st) (k + 1) (sl + n.toNatClampNeg) F M R) : JC G Y k0 pc ls (.int n :: st) k sl F M R := by
  intro p e s m args below meth c H locs la X1 X2 X3 X4 X5 X6 hW hS hl
  refine va_newa (atype := .int) (ty := .int) (a0 := (n.toNatClampNeg, .inl (fun _ => 0))) X1.1 X1.2.1 (X1.2.2.2.2.1 _ hw) rfl (jFx_k X1 X2 X6 F).K hW.1 (jwl_D (jGl_k X1.gl X2 X6 F)) hS (fun q hq => Nat.le_trans X1.2.2.2.2.2.2.2.2.1 hq) (fun cA => rfl) hn rfl (by show _ * 4 ≤ _; omega) hc hs hd (fun q cA H1 hK hP hD hS1 => ?_)
  refine jW_new fun hz => ?_
  have hcA : cA = jcA G 0 := jK_cls (hK.2 5 _ rfl).2 (hK.2 0 _ rfl).2
  have hen : jent (jGk G (k + 1) F) M (k + 1) = .inl (cA, n.toNatClampNeg, .inl (fun _ => 0)) := by
    have hz0 : M (k + 1) = fun _ => 0 := funext hM
    rw [jent_arr1 ht.1, ht.2, hcA, hz0]
    rfl
  obtain ⟨hq, hP'⟩ := jwl_push X2 hk (H := H) hP hD (by omega) hen
  have K := K p e s m args below meth c H1 locs la X1 X2 X3 X4 (by omega) (by omega) (JC.grow X1.2.2.2.2.2.2.2.2.1 hW hS hP' hS1) hS1 hl
  rw [jr_pos (by omega), X2.2.2 k hk, ← hq, show k + 1 - k0 = k - k0 + 1 by omega] at K
  exact K
theorem JC.newz {n : Int32} (hd : decode (jcc Y) pc = .ok (.newarray .boolean, 2)) (hw : Cond.arrayClass .boolean ∈ jw) (hk : k < jKall) (ht : jtag (k + 1) = 2 ∧ jpar (k + 1) = n.toNatClampNeg) (hM : ∀ i, M (k + 1) i = 0) (hn : ¬ n < 0) (hb : n.toNatClampNeg ≤ 5000) (hc : k - k0 + 1 ≤ jcs Y) (hs : sl + n.toNatClampNeg ≤ jss Y) (K : JC G Y k0 (pc + 2) ls (jr G (k + 1) :: st) (k + 1) (sl + n.toNatClampNeg) F M R) : JC G Y k0 pc ls (.int n :: st) k sl F M R := by
  intro p e s m args below meth c H locs la X1 X2 X3 X4 X5 X6 hW hS hl
  refine va_newa (atype := .boolean) (ty := .boolean) (a0 := (n.toNatClampNeg, .inl (fun _ => 0))) X1.1 X1.2.1 (X1.2.2.2.2.1 _ hw) rfl (jFx_k X1 X2 X6 F).K hW.1 (jwl_D (jGl_k X1.gl X2 X6 F)) hS (fun q hq => Nat.le_trans X1.2.2.2.2.2.2.2.2.1 hq) (fun cA => rfl) hn rfl (by show _ * 1 ≤ _; omega) hc hs hd (fun q cA H1 hK hP hD hS1 => ?_)
  refine jW_new fun hz => ?_
  have hcA : cA = jcA G 1 := jK_cls (hK.2 5 _ rfl).2 (hK.2 1 _ rfl).2
  have hen : jent (jGk G (k + 1) F) M (k + 1) = .inl (cA, n.toNatClampNeg, .inl (fun _ => 0)) := by
    have hz0 : M (k + 1) = fun _ => 0 := funext hM
    rw [jent_arr2 ht.1, ht.2, hcA, hz0]
    rfl
  obtain ⟨hq, hP'⟩ := jwl_push X2 hk (H := H) hP hD (by omega) hen
  have K := K p e s m args below meth c H1 locs la X1 X2 X3 X4 (by omega) (by omega) (JC.grow X1.2.2.2.2.2.2.2.2.1 hW hS hP' hS1) hS1 hl
  rw [jr_pos (by omega), X2.2.2 k hk, ← hq, show k + 1 - k0 = k - k0 + 1 by omega] at K
  exact K
theorem JC.newl {n : Int32} (hd : decode (jcc Y) pc = .ok (.newarray .long, 2)) (hw : Cond.arrayClass .long ∈ jw) (hk : k < jKall) (ht : jtag (k + 1) = 5 ∧ jpar (k + 1) = n.toNatClampNeg) (hM : ∀ i, M (k + 1) i = 0) (hn : ¬ n < 0) (hb : n.toNatClampNeg ≤ 5000) (hc : k - k0 + 1 ≤ jcs Y) (hs : sl + n.toNatClampNeg ≤ jss Y) (K : JC G Y k0 (pc + 2) ls (jr G (k + 1) :: st) (k + 1) (sl + n.toNatClampNeg) F M R) : JC G Y k0 pc ls (.int n :: st) k sl F M R := by
  intro p e s m args below meth c H locs la X1 X2 X3 X4 X5 X6 hW hS hl
  refine va_newa (atype := .long) (ty := .long) (a0 := (n.toNatClampNeg, .inr (.inl (fun _ => 0)))) X1.1 X1.2.1 (X1.2.2.2.2.1 _ hw) rfl (jFx_k X1 X2 X6 F).K hW.1 (jwl_D (jGl_k X1.gl X2 X6 F)) hS (fun q hq => Nat.le_trans X1.2.2.2.2.2.2.2.2.1 hq) (fun cA => rfl) hn rfl (by show _ * 8 ≤ _; omega) hc hs hd (fun q cA H1 hK hP hD hS1 => ?_)
  refine jW_new fun hz => ?_
  have hcA : cA = jcA G 4 := jK_cls (hK.2 5 _ rfl).2 (hK.2 4 _ rfl).2
  have hen : jent (jGk G (k + 1) F) M (k + 1) = .inl (cA, n.toNatClampNeg, .inr (.inl (fun _ => 0))) := by
    have hz0 : M (k + 1) = fun _ => 0 := funext hM
    unfold jent
    rw [ht.1, ht.2, hcA, hz0]
    rfl
  obtain ⟨hq, hP'⟩ := jwl_push X2 hk (H := H) hP hD (by omega) hen
  have K := K p e s m args below meth c H1 locs la X1 X2 X3 X4 (by omega) (by omega) (JC.grow X1.2.2.2.2.2.2.2.2.1 hW hS hP' hS1) hS1 hl
  rw [jr_pos (by omega), X2.2.2 k hk, ← hq, show k + 1 - k0 = k - k0 + 1 by omega] at K
  exact K
theorem JC.newq {index : Nat} {n : Int32} (hd : decode (jcc Y) pc = .ok (.anewarray index, 3)) (hw : Cond.classLink (jy Y).cls index "CitingLetters$Token" ∈ jw ∧ Cond.arrayOver (.object "CitingLetters$Token") ∈ jw) (hk : k < jKall) (ht : jtag (k + 1) = 4 ∧ jpar (k + 1) = n.toNatClampNeg) (hM : ∀ i, M (k + 1) i = 0) (hn : ¬ n < 0) (hb : n.toNatClampNeg ≤ 5000) (hc : k - k0 + 1 ≤ jcs Y) (hs : sl + n.toNatClampNeg ≤ jss Y) (K : JC G Y k0 (pc + 3) ls (jr G (k + 1) :: st) (k + 1) (sl + n.toNatClampNeg) F M R) : JC G Y k0 pc ls (.int n :: st) k sl F M R := by
  intro p e s m args below meth c H locs la X1 X2 X3 X4 X5 X6 hW hS hl
  refine va_newq X1.1 X1.2.1 X1.2.2.2.1 (X1.2.2.2.2.1 _ hw.1) (va_AO.of (X1.2.2.2.2.1 _ hw.2)) (jFx_k X1 X2 X6 F).K hW.1 (jwl_D (jGl_k X1.gl X2 X6 F)) hS (fun q hq => Nat.le_trans X1.2.2.2.2.2.2.2.2.1 hq) hn rfl (by omega) hc hs hd (fun q cA H1 hK hP hD hS1 => ?_)
  refine jW_new fun hz => ?_
  have hcA : cA = jcA G 3 := jK_cls (hK.2 5 _ rfl).2 (hK.2 3 _ rfl).2
  have hen : jent (jGk G (k + 1) F) M (k + 1) = .inl (cA, n.toNatClampNeg, .inr (.inr (.inr (.inr (fun _ => none))))) := by
    have hz0 : M (k + 1) = fun _ => 0 := funext hM
    rw [jent_arr4 ht.1, ht.2, hcA, hz0]
    rfl
  obtain ⟨hq, hP'⟩ := jwl_push X2 hk (H := H) hP hD (by omega) hen
  have K := K p e s m args below meth c H1 locs la X1 X2 X3 X4 (by omega) (by omega) (JC.grow X1.2.2.2.2.2.2.2.2.1 hW hS hP' hS1) hS1 hl
  rw [jr_pos (by omega), X2.2.2 k hk, ← hq, show k + 1 - k0 = k - k0 + 1 by omega] at K
  exact K
/-- what a class's new object holds -/
theorem JC.new {index ci N : Nat} {C : String} {T : u_T} (ty : Nat → FieldType) (hd : decode (jcc Y) pc = .ok (.new index, 3)) (hcl : jcl[ci]? = some (C, T, N)) (hN : N = jnf ci) (hty : ∀ k, k < N → parseFieldDescriptor (T k).2.2.1 = some (ty k)) (hin : ∀ w ∈ u_ws C T N, w ∈ jw) (hw : Cond.classLink (jy Y).cls index C ∈ jw ∧ Cond.instantiable C N ∈ jw ∧ Cond.initialized C ∈ jw) (hk : k < jKall) (ht : jtag (k + 1) = 0 ∧ jpar (k + 1) = ci) (hkd : (List.range N).all (fun j => (defaultValue (ty j) == (if jkd ci j = 0 then Value.int 0 else Value.null))) = true) (hM : ∀ i, M (k + 1) i = 0) (hF : ∀ i, F (k + 1) i = 0) (hc : k - k0 + 1 ≤ jcs Y) (hs : sl + N ≤ jss Y) (K : JC G Y k0 (pc + 3) ls (jr G (k + 1) :: st) (k + 1) (sl + N) F M R) : JC G Y k0 pc ls st k sl F M R := by
  intro p e s m args below meth c H locs la X1 X2 X3 X4 X5 X6 hW hS hl
  have hts := X1.2.2.2.2.1
  have hdef : ∀ j, j < N → jfv (jGk G (k + 1) F) M (k + 1) j (jkd ci j) = defaultValue (ty j) := by
    intro j hj
    have h1 := List.all_eq_true.mp hkd j (List.mem_range.mpr hj)
    have h1 : defaultValue (ty j) = (if jkd ci j = 0 then Value.int 0 else Value.null) := by simpa using h1
    rw [h1]
    unfold jfv
    split
    next h0 => rw [h0, if_pos rfl, hM j]
    next h0 => rw [h0, if_neg (by decide)]; show jr _ (F (k + 1) j) = _; rw [hF j]; rfl
    next h0 h00 => rw [if_neg h0, hM j]; rfl
  refine va_new (fs := (List.range N).map (fun j => jfv (jGk G (k + 1) F) M (k + 1) j (jkd ci j))) X1.1 X1.2.1 hts hin ty hty X1.2.2.2.1 (hts _ hw.1) (hts _ hw.2.1) (hts _ hw.2.2) (jFx_k X1 X2 X6 F).K hW.1 (jwl_D (jGl_k X1.gl X2 X6 F)) hS (fun q hq => Nat.le_trans X1.2.2.2.2.2.2.2.2.1 hq) hcl (fun j hj => ?_) hc hs hd (fun q H1 hP hD hS1 => ?_)
  · unfold vp_V
    rw [List.getD_eq_getElem?_getD, List.getElem?_map, List.getElem?_range hj]
    exact (hdef j hj).symm
  refine jW_new fun hz => ?_
  have hen : jent (jGk G (k + 1) F) M (k + 1) = .inr (ci, (List.range N).map (fun j => jfv (jGk G (k + 1) F) M (k + 1) j (jkd ci j))) := by
    rw [jent_obj ht.1, ht.2, hN]
  obtain ⟨hq, hP'⟩ := jwl_push X2 hk (H := H) hP hD (by omega) hen
  have K := K p e s m args below meth c H1 locs la X1 X2 X3 X4 (by omega) (by omega) (JC.grow X1.2.2.2.2.2.2.2.2.1 hW hS hP' hS1) hS1 hl
  rw [jr_pos (by omega), X2.2.2 k hk, ← hq, show k + 1 - k0 = k - k0 + 1 by omega] at K
  exact K
/-- a reference that stays is laid: its field is final, or not -/
theorem JC.putF {index ci j c n : Nat} {ty : FieldType} (hd : decode (jcc Y) pc = .ok (.putfield index, 3)) (hf : jFl (jy Y).cls index ci j) (hlk : ∃ (C : String) (T : u_T) (N : Nat) (ty0 : Nat → FieldType), jcl[ci]? = some (C, T, N) ∧ Cond.fieldLink (jy Y).cls index C (T j).2.1 (T j).2.2.1 ∈ jw ∧ (∀ k, k < N → parseFieldDescriptor (T k).2.2.1 = some (ty0 k)) ∧ (∀ a, a < N → ∀ b, b < N → a ≠ b → (T a).2.1 ≠ (T b).2.1) ∧ (T j).2.2.2 = true ∧ (T j).1 = (jy Y).cls ∧ parseFieldDescriptor (T j).2.2.1 = some ty) (hc : 0 < c ∧ c ≤ k ∧ jtag c = 0 ∧ jpar c = ci ∧ jkd ci j = 1) (hn : narrow ty (jr G n) = jr G n) (hfit : fits ty (jr G n) = true) (K : JC G Y k0 (pc + 3) ls st k sl (jfup F c j n) M R) : JC G Y k0 pc ls (jr G n :: jr G c :: st) k sl F M R := by
  intro p e s m args below meth c0 H locs la X1 X2 X3 X4 X5 X6 hW hS hl
  obtain ⟨C, T, N, hcl, hk, hN, hin, hT, -⟩ := hf
  obtain ⟨C', T', N', ty0, hcl', hlk, hty, hnm, hfin, hdecl, hdesc⟩ := hlk
  cases hcl.symm.trans hcl'
  obtain ⟨h0, h1, h2, h3, h4⟩ := hc
  rw [jr_pos (n := c) h0]
  have he := jwl_at (G := jGk G k F) (M := M) h0 h1
  rw [jent_obj h2, h3] at he
  have hset : (jwl (jGk G k F) M).set (c - 1) (jad G c, .inr (ci, ((List.range (jnf ci)).map (fun i => jfv (jGk G k F) M c i (jkd ci i))).set j (jr G n))) = jwl (jGk G k (jfup F c j n)) M := by
    unfold jwl
    refine jmap_set (g := fun i => (jad G (i + 1), jent (jGk G k (jfup F c j n)) M (i + 1))) ?_ (fun i hi => ?_)
    · show (jad G (c - 1 + 1), jent (jGk G k (jfup F c j n)) M (c - 1 + 1)) = _
      rw [Nat.sub_add_cancel h0, jent_obj h2, h3]
      congr 3
      refine (jmap_set (g := fun i => jfv (jGk G k (jfup F c j n)) M c i (jkd ci i)) ?_ (fun i hi => ?_)).symm
      · show jfv _ _ _ _ (jkd ci j) = _
        rw [h4]
        show jr (jGk G k (jfup F c j n)) (jfup F c j n c j) = _
        unfold jfup
        rw [if_pos ⟨rfl, rfl⟩]
        rfl
      · show jfv _ _ _ _ _ = jfv _ _ _ _ _
        unfold jfv
        split
        · rfl
        · show jr (jGk G k (jfup F c j n)) (jfup F c j n c i) = jr (jGk G k F) (F c i)
          unfold jfup
          rw [if_neg (fun q => hi q.2)]
          rfl
        · rfl
    · show (jad G (i + 1), jent (jGk G k (jfup F c j n)) M (i + 1)) = (jad G (i + 1), jent (jGk G k F) M (i + 1))
      have hne : i + 1 ≠ c := by omega
      have hFe : ∀ x, jfup F c j n (i + 1) x = F (i + 1) x := fun x => if_neg (fun q => hne q.1)
      congr 1
      unfold jent jfv
      show (match jtag (i + 1) with | 0 => _ | 1 => _ | 2 => _ | 3 => _ | 4 => _ | _ => _) = _
      simp only [show jF (jGk G k (jfup F c j n)) (i + 1) = jF (jGk G k F) (i + 1) from funext hFe]
      rfl
  refine va_putF X1.1 X1.2.1 (own := (jy Y).cls) (ref := C) X1.2.2.2.2.1 hin ty0 hty hnm X1.2.2.2.1 (jFx_k X1 X2 X6 F).K hW.1 (jwl_D (jGl_k X1.gl X2 X6 F)) hS (c - 1) he hcl j hk (X1.2.2.2.2.1 _ hlk) (fun x hx => by rw [hT] at hx; exact hx) hfin X3 hdecl hdesc hn hfit (by rw [List.length_map, List.length_range]; omega) hd (fun H1 locs1 a1 a2 a3 => ?_)
  have a1 : va_P (jD G) jcl ((jwl (jGk G k F) M).set (c - 1) (jad G c, .inr (ci, ((List.range (jnf ci)).map (fun i => jfv (jGk G k F) M c i (jkd ci i))).set j (jr G n)))) H1 := a1
  rw [hset] at a1
  exact K p e s m args below meth c0 H1 locs1 la X1 X2 X3 X4 X5 X6 (JC.grow X1.2.2.2.2.2.2.2.2.1 hW hS a1 a3) a3 hl
end JCR
