/-! constructors: the world grows; k cells stand, F is what the references that stay hold by now -/
def jGk (G : jG) (k : Nat) (F : Nat → Nat → Nat) : jG := (jl G, jad G, jD G, jcA G, jL G, js0 G, k, F)
def jfup (F : Nat → Nat → Nat) (c i n : Nat) : Nat → Nat → Nat := fun c' i' => if c' = c ∧ i' = i then n else F c' i'
/-- the addresses follow each other from the old heap's end on -/
def jSeq (G : jG) : Prop := jK G = jKall ∧ jF G = jfx ∧ ∀ i, i < jKall → jad G (i + 1) = jL G + i
abbrev jRC : Type := Nat × (Nat → Nat → Nat) × jMem
def jQC (G : jG) (R : jRC) : Array Value → State → Outcome → State → Prop := fun _ st o t => o = .returned none ∧ jWd (jGk G R.1 R.2.1) R.2.2 t.heap ∧ st.heap.size ≤ t.heap.size
def JCQ (G : jG) (Y : jY) (k0 : Nat) (pc : Nat) (ls : List (Nat × Value)) (st : List Value) (k sl : Nat) (F : Nat → Nat → Nat) (M : jMem) (Q : jQT) : Prop :=
  ∀ (p : Program) (e : Env) (s : State) (m : MethodId) (args : Array Value) (below : List Frame) (meth : Method) (c : Code) (H : Heap) (locs : List Loc) (la : Array Slot) (rm : Room),
    jFx G Y p s m args meth c → jFit Y rm → jSeq G → ((jy Y).name = "<init>" → meth.name = "<init>") → s.heap.size = jL G + k0 → k0 ≤ k → k ≤ jKall → jWd (jGk G k F) M H → va_S (jA G) s.heap H locs → lv_has la (jnL Y) ls →
    W p (jl G) e rm s m args below meth c H locs (k - k0) sl (Q below args s) (F0 m pc la st)
abbrev jQofC (G : jG) (Y : jY) (R : jRC) : jQT := fun below args s => MQ below (jQC G R) args s (jcs Y) (jss Y) (jA G)
abbrev JC (G : jG) (Y : jY) (k0 : Nat) (pc : Nat) (ls : List (Nat × Value)) (st : List Value) (k sl : Nat) (F : Nat → Nat → Nat) (M : jMem) (R : jRC) : Prop := JCQ G Y k0 pc ls st k sl F M (jQofC G Y R)
def jPC (G : jG) (av : List Value) (k : Nat) (F : Nat → Nat → Nat) (M : jMem) : Array Value → State → Prop := fun a U => a = av.toArray ∧ jWd (jGk G k F) M U.heap ∧ U.heap.size = jL G + k ∧ (js0 G).vm.Alike U.vm ∧ jSt G U
def jCC (G : jG) (Y : jY) (av : List Value) (k : Nat) (F : Nat → Nat → Nat) (M : jMem) (R : jRC) : Prop :=
  jGl G → jSeq G → Met (jl G) (jy Y) (jws Y) (jrm (jd Y) (jcs Y) (jss Y)) (jPC G av k F M) (jQC G R) (jcs Y) (jss Y) (jA G)
theorem jGk_self {G : jG} (h : jSeq G) : jGk G jKall jfx = G := by
  obtain ⟨a, b, c, d, e, f, g, i⟩ := G
  obtain ⟨h1, h2, -⟩ := h
  have h1 : g = jKall := h1
  have h2 : i = jfx := h2
  subst h1
  subst h2
  rfl
theorem jGl_k {G : jG} (hg : jGl G) (hs : jSeq G) {k : Nat} (hk : k ≤ jKall) (F : Nat → Nat → Nat) : jGl (jGk G k F) := by
  obtain ⟨h1, h2, h3, h4, h5⟩ := hg
  refine ⟨h1, fun i j hi hj e => ?_, fun i hi => ?_, h4, h5⟩
  · have hi : i < k := hi
    have hj : j < k := hj
    have hK := hs.1
    exact h2 i j (by omega) (by omega) e
  · have hi : i < k := hi
    have hK := hs.1
    exact h3 i (by omega)
theorem jFx_k {G : jG} {Y : jY} {p : Program} {s : State} {m : MethodId} {args : Array Value} {meth : Method} {c : Code} (F0 : jFx G Y p s m args meth c) (hs : jSeq G) {k : Nat} (hk : k ≤ jKall) (F : Nat → Nat → Nat) : jFx (jGk G k F) Y p s m args meth c := by
  obtain ⟨h1, h2, h3, h4, h5, h6, h7, h8, h9, h10, h11⟩ := F0
  exact ⟨h1, h2, h3, h4, h5, h6, h7, h8, h9, jGl_k h10 hs hk F, h11⟩
/-- the heap's size, where k cells stand -/
theorem jWd_lo {G : jG} {k : Nat} {F : Nat → Nat → Nat} {M : jMem} {H : Heap} (hs : jSeq G) (hk : k ≤ jKall) (h : jWd (jGk G k F) M H) : jL G + k ≤ H.size := by
  rcases Nat.eq_zero_or_pos k with e | e
  · subst e
    exact h.2.1
  · have h1 := (h.1 _ _ (jwl_at (G := jGk G k F) (M := M) e (Nat.le_refl k))).lt
    have h2 : jad G (k - 1 + 1) = jL G + (k - 1) := hs.2.2 (k - 1) (by omega)
    rw [Nat.sub_add_cancel e] at h2
    have h1 : jad G k < H.size := h1
    omega
section JCR
variable {G : jG} {Y : jY} {k0 pc : Nat} {ls : List (Nat × Value)} {st : List Value} {k sl : Nat} {F : Nat → Nat → Nat} {M : jMem} {Q : jQT} {R : jRC}
theorem JC.iconst {n : Int} {v : Int32} (hd : decode (jcc Y) pc = .ok (.iconst n, 1)) (hv : Int32.ofInt n = v) (K : JCQ G Y k0 (pc + 1) ls (.int v :: st) k sl F M Q) : JCQ G Y k0 pc ls st k sl F M Q := by
  intro p e s m args below meth c H locs la rm X1 hFt X2 X3 X4 X5 X6 hW hS hl
  exact lv_iconst X1.1 X1.2.1 hd hv (K p e s m args below meth c H locs la rm X1 hFt X2 X3 X4 X5 X6 hW hS hl)
theorem JC.bipush {n : Int} {v : Int32} (hd : decode (jcc Y) pc = .ok (.bipush n, 2)) (hv : (Int8.ofInt n).toInt32 = v) (K : JCQ G Y k0 (pc + 2) ls (.int v :: st) k sl F M Q) : JCQ G Y k0 pc ls st k sl F M Q := by
  intro p e s m args below meth c H locs la rm X1 hFt X2 X3 X4 X5 X6 hW hS hl
  exact lv_bipush X1.1 X1.2.1 hd hv (K p e s m args below meth c H locs la rm X1 hFt X2 X3 X4 X5 X6 hW hS hl)
theorem JC.sipush {n : Int} {v : Int32} (hd : decode (jcc Y) pc = .ok (.sipush n, 3)) (hv : (Int16.ofInt n).toInt32 = v) (K : JCQ G Y k0 (pc + 3) ls (.int v :: st) k sl F M Q) : JCQ G Y k0 pc ls st k sl F M Q := by
  intro p e s m args below meth c H locs la rm X1 hFt X2 X3 X4 X5 X6 hW hS hl
  exact lv_sipush X1.1 X1.2.1 hd hv (K p e s m args below meth c H locs la rm X1 hFt X2 X3 X4 X5 X6 hW hS hl)
theorem JC.aload_n (q : Nat) {j : Fin 4} {i n : Nat} (hd : decode (jcc Y) pc = .ok (.aload_n j, 1)) (hi : (j : Nat) = i) (h : ls[q]? = some (i, jr G n)) (hn : 0 < n) (K : JCQ G Y k0 (pc + 1) ls (jr G n :: st) k sl F M Q) : JCQ G Y k0 pc ls st k sl F M Q := by
  intro p e s m args below meth c H locs la rm X1 hFt X2 X3 X4 X5 X6 hW hS hl
  have K := K p e s m args below meth c H locs la rm X1 hFt X2 X3 X4 X5 X6 hW hS hl
  rw [jr_pos hn] at h K
  exact lv_aload_n X1.1 X1.2.1 hd hi (lv_at hl q h) K
theorem JC.dup {va : Value} (hd : decode (jcc Y) pc = .ok (.dup, 1)) (ha : va.category = 1) (K : JCQ G Y k0 (pc + 1) ls (va :: va :: st) k sl F M Q) : JCQ G Y k0 pc ls (va :: st) k sl F M Q := by
  intro p e s m args below meth c H locs la rm X1 hFt X2 X3 X4 X5 X6 hW hS hl
  exact lv_dup X1.1 X1.2.1 hd ha (K p e s m args below meth c H locs la rm X1 hFt X2 X3 X4 X5 X6 hW hS hl)
theorem JC.nop {pc' : Nat} (h : pc = pc') (K : JCQ G Y k0 pc' ls st k sl F M Q) : JCQ G Y k0 pc ls st k sl F M Q := h ▸ K
theorem JC.objInit {index n : Nat} (hd : decode (jcc Y) pc = .ok (.invokespecial index, 3)) (hw : Cond.methodLink (jy Y).cls index Lib.objectInit ∈ jw ∧ Cond.instanceMethod Lib.objectInit ∈ jw ∧ Cond.code Lib.objectInit ⟨#[0xb1]⟩ 1 none ∈ jw) (hn : 0 < n) (hrs : (st.map fun v => v.category).sum ≤ 8) (K : JCQ G Y k0 (pc + 3) ls st k sl F M Q) : JCQ G Y k0 pc ls (jr G n :: st) k sl F M Q := by
  intro p e s m args below meth c H locs la rm X1 hFt X2 X3 X4 X5 X6 hW hS hl
  rw [jr_pos hn]
  have hts := X1.2.2.2.2.1
  exact W.objInit X1.1 X1.2.1 X1.2.2.2.1 (hts _ hw.1) (hts _ hw.2.1) (hts _ hw.2.2) rfl (hl.1.trans X1.2.2.1.symm) rfl hd (by have := hFt.1; omega) (by have := hFt.2.2.2; show 2 * 0 + _ + 12 ≤ _; omega) (K p e s m args below meth c H locs la rm X1 hFt X2 X3 X4 X5 X6 hW hS hl)
/-- a new cell stands at the heap's end -/
theorem jW_new {p : Program} {e : Env} {s : State} {m : MethodId} {args : Array Value} {below : List Frame} {meth : Method} {c : Code} {H1 : Heap} {locs : List Loc} {cells slots : Nat} {Q : State → Prop} {g : JFrame} {rm : Room} {l : Launch} (h : H1.size ≤ s.heap.size + cells → W p l e rm s m args below meth c H1 locs cells slots Q g) : W p l e rm s m args below meth c H1 locs cells slots Q g := by
  intro T hT X
  exact h (by have h1 := X.heapSize; rw [hT] at h1; exact h1) T hT X
theorem jwl_push {q : Nat} {en : va_E} (hs : jSeq G) (hk : k < jKall) {H H1 : Heap} (hP : va_P (jD G) jcl (jwl (jGk G k F) M ++ [(q, en)]) H1) (hD : va_D (jA G) (jwl (jGk G k F) M ++ [(q, en)])) (hz : H1.size ≤ jL G + (k + 1)) (hen : jent (jGk G (k + 1) F) M (k + 1) = en) : q = jL G + k ∧ va_P (jD G) jcl (jwl (jGk G (k + 1) F) M) H1 := by
  have hlen : (jwl (jGk G k F) M).length = k := by
    unfold jwl
    rw [List.length_map, List.length_range]
    rfl
  have hlast : (jwl (jGk G k F) M ++ [(q, en)])[k]? = some (q, en) := by
    rw [List.getElem?_append_right (by omega), hlen, Nat.sub_self]
    rfl
  have hq1 : jL G ≤ q := hD.2 k _ hlast
  have hq2 : q < H1.size := (hP k _ hlast).lt
  have hqe : q = jL G + k := by
    rcases Nat.lt_or_ge q (jL G + k) with hlt | hge
    · have hi : q - jL G < k := by omega
      have e2 := hs.2.2 (q - jL G) (by omega)
      have e3 : (jwl (jGk G k F) M ++ [(q, en)])[q - jL G]? = some (jad G (q - jL G + 1), jent (jGk G k F) M (q - jL G + 1)) := by
        rw [List.getElem?_append_left (by omega)]
        exact jwl_at (G := jGk G k F) (c := q - jL G + 1) (by omega) (by show q - jL G + 1 ≤ k; omega)
      have := hD.1 _ _ _ _ e3 hlast (by show jad G (q - jL G + 1) = q; rw [e2]; omega)
      omega
    · omega
  refine ⟨hqe, ?_⟩
  have he : jwl (jGk G (k + 1) F) M = jwl (jGk G k F) M ++ [(q, en)] := by
    unfold jwl
    show (List.range (k + 1)).map _ = (List.range k).map _ ++ _
    rw [List.range_succ, List.map_append]
    congr 1
    show [(jad G (k + 1), jent (jGk G (k + 1) F) M (k + 1))] = _
    rw [hen, hs.2.2 k hk, hqe]
  rw [he]
  exact hP
theorem JC.grow {H H1 : Heap} {locs : List Loc} {s : State} (hs0 : jL G ≤ s.heap.size) (hW : jWd (jGk G k F) M H) (hS : va_S (jA G) s.heap H locs) {M' : jMem} {k' : Nat} {F' : Nat → Nat → Nat} {locs1 : List Loc} (a1 : va_P (jD G) jcl (jwl (jGk G k' F') M') H1) (a3 : va_S (jA G) s.heap H1 locs1) : jWd (jGk G k' F') M' H1 :=
  ⟨a1, Nat.le_trans hs0 a3.1, fun q hq => by
    have hq : q < jL G := hq
    rw [a3.2.1 q (Nat.lt_of_lt_of_le hq hs0) (Nat.not_le.mpr hq), ← hS.2.1 q (Nat.lt_of_lt_of_le hq hs0) (Nat.not_le.mpr hq)]
    exact hW.2.2 q hq⟩
/-- the array's class is the one that the world's arrays of its kind have -/
theorem jK_cls {s : State} {ty : FieldType} {cA cB : ClassId} (h1 : va_RA s cA ty) (h2 : va_RA s cB ty) : cA = cB := by
  cases ty with
  | object C =>
    obtain ⟨_, _, -, -, -, e1⟩ := h1
    obtain ⟨_, _, -, -, -, e2⟩ := h2
    exact Option.some.inj (e1.symm.trans e2)
  | _ => exact Option.some.inj (Eq.trans (Eq.symm h1) h2)
theorem JC.newi {n : Int32} (hd : decode (jcc Y) pc = .ok (.newarray .int, 2)) (hw : Cond.arrayClass .int ∈ jw) (hk : k < jKall) (ht : jtag (k + 1) = 1 ∧ jpar (k + 1) = n.toNatClampNeg) (hM : ∀ i, M (k + 1) i = 0) (hn : ¬ n < 0) (hb : n.toNatClampNeg ≤ 5000) (hc : k - k0 + 1 ≤ jcs Y) (hs : sl + n.toNatClampNeg ≤ jss Y) (K : JCQ G Y k0 (pc + 2) ls (jr G (k + 1) :: st) (k + 1) (sl + n.toNatClampNeg) F M Q) : JCQ G Y k0 pc ls (.int n :: st) k sl F M Q := by
  intro p e s m args below meth c H locs la rm X1 hFt X2 X3 X4 X5 X6 hW hS hl
  refine va_newa (atype := .int) (ty := .int) (a0 := (n.toNatClampNeg, .inl (fun _ => 0))) X1.1 X1.2.1 (X1.2.2.2.2.1 _ hw) rfl (jFx_k X1 X2 X6 F).K hW.1 (jwl_D (jGl_k X1.gl X2 X6 F)) hS (fun q hq => Nat.le_trans X1.2.2.2.2.2.2.2.2.1 hq) (fun cA => rfl) hn rfl (by show _ * 4 ≤ _; omega) (Nat.le_trans hc hFt.2.1) (Nat.le_trans hs hFt.2.2.1) hd (fun q cA H1 hK hP hD hS1 => ?_)
  refine jW_new fun hz => ?_
  have hcA : cA = jcA G 0 := jK_cls (hK.2 5 _ rfl).2 (hK.2 0 _ rfl).2
  have hen : jent (jGk G (k + 1) F) M (k + 1) = .inl (cA, n.toNatClampNeg, .inl (fun _ => 0)) := by
    have hz0 : M (k + 1) = fun _ => 0 := funext hM
    rw [jent_arr1 ht.1, ht.2, hcA, hz0]
    rfl
  obtain ⟨hq, hP'⟩ := jwl_push X2 hk (H := H) hP hD (by omega) hen
  have K := K p e s m args below meth c H1 locs la rm X1 hFt X2 X3 X4 (by omega) (by omega) (JC.grow X1.2.2.2.2.2.2.2.2.1 hW hS hP' hS1) hS1 hl
  rw [jr_pos (by omega), X2.2.2 k hk, ← hq, show k + 1 - k0 = k - k0 + 1 by omega] at K
  exact K
theorem JC.newz {n : Int32} (hd : decode (jcc Y) pc = .ok (.newarray .boolean, 2)) (hw : Cond.arrayClass .boolean ∈ jw) (hk : k < jKall) (ht : jtag (k + 1) = 2 ∧ jpar (k + 1) = n.toNatClampNeg) (hM : ∀ i, M (k + 1) i = 0) (hn : ¬ n < 0) (hb : n.toNatClampNeg ≤ 5000) (hc : k - k0 + 1 ≤ jcs Y) (hs : sl + n.toNatClampNeg ≤ jss Y) (K : JCQ G Y k0 (pc + 2) ls (jr G (k + 1) :: st) (k + 1) (sl + n.toNatClampNeg) F M Q) : JCQ G Y k0 pc ls (.int n :: st) k sl F M Q := by
  intro p e s m args below meth c H locs la rm X1 hFt X2 X3 X4 X5 X6 hW hS hl
  refine va_newa (atype := .boolean) (ty := .boolean) (a0 := (n.toNatClampNeg, .inl (fun _ => 0))) X1.1 X1.2.1 (X1.2.2.2.2.1 _ hw) rfl (jFx_k X1 X2 X6 F).K hW.1 (jwl_D (jGl_k X1.gl X2 X6 F)) hS (fun q hq => Nat.le_trans X1.2.2.2.2.2.2.2.2.1 hq) (fun cA => rfl) hn rfl (by show _ * 1 ≤ _; omega) (Nat.le_trans hc hFt.2.1) (Nat.le_trans hs hFt.2.2.1) hd (fun q cA H1 hK hP hD hS1 => ?_)
  refine jW_new fun hz => ?_
  have hcA : cA = jcA G 1 := jK_cls (hK.2 5 _ rfl).2 (hK.2 1 _ rfl).2
  have hen : jent (jGk G (k + 1) F) M (k + 1) = .inl (cA, n.toNatClampNeg, .inl (fun _ => 0)) := by
    have hz0 : M (k + 1) = fun _ => 0 := funext hM
    rw [jent_arr2 ht.1, ht.2, hcA, hz0]
    rfl
  obtain ⟨hq, hP'⟩ := jwl_push X2 hk (H := H) hP hD (by omega) hen
  have K := K p e s m args below meth c H1 locs la rm X1 hFt X2 X3 X4 (by omega) (by omega) (JC.grow X1.2.2.2.2.2.2.2.2.1 hW hS hP' hS1) hS1 hl
  rw [jr_pos (by omega), X2.2.2 k hk, ← hq, show k + 1 - k0 = k - k0 + 1 by omega] at K
  exact K
theorem JC.newl {n : Int32} (hd : decode (jcc Y) pc = .ok (.newarray .long, 2)) (hw : Cond.arrayClass .long ∈ jw) (hk : k < jKall) (ht : jtag (k + 1) = 5 ∧ jpar (k + 1) = n.toNatClampNeg) (hM : ∀ i, M (k + 1) i = 0) (hn : ¬ n < 0) (hb : n.toNatClampNeg ≤ 5000) (hc : k - k0 + 1 ≤ jcs Y) (hs : sl + n.toNatClampNeg ≤ jss Y) (K : JCQ G Y k0 (pc + 2) ls (jr G (k + 1) :: st) (k + 1) (sl + n.toNatClampNeg) F M Q) : JCQ G Y k0 pc ls (.int n :: st) k sl F M Q := by
  intro p e s m args below meth c H locs la rm X1 hFt X2 X3 X4 X5 X6 hW hS hl
  refine va_newa (atype := .long) (ty := .long) (a0 := (n.toNatClampNeg, .inr (.inl (fun _ => 0)))) X1.1 X1.2.1 (X1.2.2.2.2.1 _ hw) rfl (jFx_k X1 X2 X6 F).K hW.1 (jwl_D (jGl_k X1.gl X2 X6 F)) hS (fun q hq => Nat.le_trans X1.2.2.2.2.2.2.2.2.1 hq) (fun cA => rfl) hn rfl (by show _ * 8 ≤ _; omega) (Nat.le_trans hc hFt.2.1) (Nat.le_trans hs hFt.2.2.1) hd (fun q cA H1 hK hP hD hS1 => ?_)
  refine jW_new fun hz => ?_
  have hcA : cA = jcA G 4 := jK_cls (hK.2 5 _ rfl).2 (hK.2 4 _ rfl).2
  have hen : jent (jGk G (k + 1) F) M (k + 1) = .inl (cA, n.toNatClampNeg, .inr (.inl (fun _ => 0))) := by
    have hz0 : M (k + 1) = fun _ => 0 := funext hM
    unfold jent
    rw [ht.1, ht.2, hcA, hz0]
    rfl
  obtain ⟨hq, hP'⟩ := jwl_push X2 hk (H := H) hP hD (by omega) hen
  have K := K p e s m args below meth c H1 locs la rm X1 hFt X2 X3 X4 (by omega) (by omega) (JC.grow X1.2.2.2.2.2.2.2.2.1 hW hS hP' hS1) hS1 hl
  rw [jr_pos (by omega), X2.2.2 k hk, ← hq, show k + 1 - k0 = k - k0 + 1 by omega] at K
  exact K
theorem JC.newq {index : Nat} {n : Int32} (hd : decode (jcc Y) pc = .ok (.anewarray index, 3)) (hw : Cond.classLink (jy Y).cls index "CitingLetters$Token" ∈ jw ∧ Cond.arrayOver (.object "CitingLetters$Token") ∈ jw) (hk : k < jKall) (ht : jtag (k + 1) = 4 ∧ jpar (k + 1) = n.toNatClampNeg) (hM : ∀ i, M (k + 1) i = 0) (hn : ¬ n < 0) (hb : n.toNatClampNeg ≤ 5000) (hc : k - k0 + 1 ≤ jcs Y) (hs : sl + n.toNatClampNeg ≤ jss Y) (K : JCQ G Y k0 (pc + 3) ls (jr G (k + 1) :: st) (k + 1) (sl + n.toNatClampNeg) F M Q) : JCQ G Y k0 pc ls (.int n :: st) k sl F M Q := by
  intro p e s m args below meth c H locs la rm X1 hFt X2 X3 X4 X5 X6 hW hS hl
  refine va_newq X1.1 X1.2.1 X1.2.2.2.1 (X1.2.2.2.2.1 _ hw.1) (va_AO.of (X1.2.2.2.2.1 _ hw.2)) (jFx_k X1 X2 X6 F).K hW.1 (jwl_D (jGl_k X1.gl X2 X6 F)) hS (fun q hq => Nat.le_trans X1.2.2.2.2.2.2.2.2.1 hq) hn rfl (by omega) (Nat.le_trans hc hFt.2.1) (Nat.le_trans hs hFt.2.2.1) hd (fun q cA H1 hK hP hD hS1 => ?_)
  refine jW_new fun hz => ?_
  have hcA : cA = jcA G 3 := jK_cls (hK.2 5 _ rfl).2 (hK.2 3 _ rfl).2
  have hen : jent (jGk G (k + 1) F) M (k + 1) = .inl (cA, n.toNatClampNeg, .inr (.inr (.inr (.inr (fun _ => none))))) := by
    have hz0 : M (k + 1) = fun _ => 0 := funext hM
    rw [jent_arr4 ht.1, ht.2, hcA, hz0]
    rfl
  obtain ⟨hq, hP'⟩ := jwl_push X2 hk (H := H) hP hD (by omega) hen
  have K := K p e s m args below meth c H1 locs la rm X1 hFt X2 X3 X4 (by omega) (by omega) (JC.grow X1.2.2.2.2.2.2.2.2.1 hW hS hP' hS1) hS1 hl
  rw [jr_pos (by omega), X2.2.2 k hk, ← hq, show k + 1 - k0 = k - k0 + 1 by omega] at K
  exact K
/-- what a class's new object holds -/
theorem JC.new {index ci N : Nat} {C : String} {T : u_T} (ty : Nat → FieldType) (hd : decode (jcc Y) pc = .ok (.new index, 3)) (hcl : jcl[ci]? = some (C, T, N)) (hN : N = jnf ci) (hty : ∀ k, k < N → parseFieldDescriptor (T k).2.2.1 = some (ty k)) (hin : ∀ w ∈ u_ws C T N, w ∈ jw) (hw : Cond.classLink (jy Y).cls index C ∈ jw ∧ Cond.instantiable C N ∈ jw ∧ Cond.initialized C ∈ jw) (hk : k < jKall) (ht : jtag (k + 1) = 0 ∧ jpar (k + 1) = ci) (hkd : (List.range N).all (fun j => (defaultValue (ty j) == (if jkd ci j = 0 then Value.int 0 else Value.null))) = true) (hM : ∀ i, M (k + 1) i = 0) (hF : ∀ i, F (k + 1) i = 0) (hc : k - k0 + 1 ≤ jcs Y) (hs : sl + N ≤ jss Y) (K : JCQ G Y k0 (pc + 3) ls (jr G (k + 1) :: st) (k + 1) (sl + N) F M Q) : JCQ G Y k0 pc ls st k sl F M Q := by
  intro p e s m args below meth c H locs la rm X1 hFt X2 X3 X4 X5 X6 hW hS hl
  have hts := X1.2.2.2.2.1
  have hdef : ∀ j, j < N → jfv (jGk G (k + 1) F) M (k + 1) j (jkd ci j) = defaultValue (ty j) := by
    intro j hj
    have h1 := List.all_eq_true.mp hkd j (List.mem_range.mpr hj)
    have h1 : defaultValue (ty j) = (if jkd ci j = 0 then Value.int 0 else Value.null) := by simpa using h1
    rw [h1]
    unfold jfv
    split
    next h0 => rw [h0, if_pos rfl, hM j]
    next h0 => rw [h0, if_neg (by decide)]; show jr _ (F (k + 1) j) = _; rw [hF j]; rfl
    next h0 h00 => rw [if_neg h0, hM j]; rfl
  refine va_new (fs := (List.range N).map (fun j => jfv (jGk G (k + 1) F) M (k + 1) j (jkd ci j))) X1.1 X1.2.1 hts hin ty hty X1.2.2.2.1 (hts _ hw.1) (hts _ hw.2.1) (hts _ hw.2.2) (jFx_k X1 X2 X6 F).K hW.1 (jwl_D (jGl_k X1.gl X2 X6 F)) hS (fun q hq => Nat.le_trans X1.2.2.2.2.2.2.2.2.1 hq) hcl (fun j hj => ?_) (Nat.le_trans hc hFt.2.1) (Nat.le_trans hs hFt.2.2.1) hd (fun q H1 hP hD hS1 => ?_)
  · unfold vp_V
    rw [List.getD_eq_getElem?_getD, List.getElem?_map, List.getElem?_range hj]
    exact (hdef j hj).symm
  refine jW_new fun hz => ?_
  have hen : jent (jGk G (k + 1) F) M (k + 1) = .inr (ci, (List.range N).map (fun j => jfv (jGk G (k + 1) F) M (k + 1) j (jkd ci j))) := by
    rw [jent_obj ht.1, ht.2, hN]
  obtain ⟨hq, hP'⟩ := jwl_push X2 hk (H := H) hP hD (by omega) hen
  have K := K p e s m args below meth c H1 locs la rm X1 hFt X2 X3 X4 (by omega) (by omega) (JC.grow X1.2.2.2.2.2.2.2.2.1 hW hS hP' hS1) hS1 hl
  rw [jr_pos (by omega), X2.2.2 k hk, ← hq, show k + 1 - k0 = k - k0 + 1 by omega] at K
  exact K
/-- a reference that stays is laid: its field is final, or not -/
theorem JC.putF {index ci j c n : Nat} {ty : FieldType} (hd : decode (jcc Y) pc = .ok (.putfield index, 3)) (hf : jFl (jy Y).cls index ci j) (hlk : ∃ (C : String) (T : u_T) (N : Nat) (ty0 : Nat → FieldType), jcl[ci]? = some (C, T, N) ∧ Cond.fieldLink (jy Y).cls index C (T j).2.1 (T j).2.2.1 ∈ jw ∧ (∀ k, k < N → parseFieldDescriptor (T k).2.2.1 = some (ty0 k)) ∧ (∀ a, a < N → ∀ b, b < N → a ≠ b → (T a).2.1 ≠ (T b).2.1) ∧ (T j).2.2.2 = true ∧ (T j).1 = (jy Y).cls ∧ parseFieldDescriptor (T j).2.2.1 = some ty) (hnm9 : (jy Y).name = "<init>") (hc : 0 < c ∧ c ≤ k ∧ jtag c = 0 ∧ jpar c = ci ∧ jkd ci j = 1) (hn : narrow ty (jr G n) = jr G n) (hfit : fits ty (jr G n) = true) (K : JCQ G Y k0 (pc + 3) ls st k sl (jfup F c j n) M Q) : JCQ G Y k0 pc ls (jr G n :: jr G c :: st) k sl F M Q := by
  intro p e s m args below meth c0 H locs la rm X1 hFt X2 X3 X4 X5 X6 hW hS hl
  obtain ⟨C, T, N, hcl, hk, hN, hin, hT, -⟩ := hf
  obtain ⟨C', T', N', ty0, hcl', hlk, hty, hnm, hfin, hdecl, hdesc⟩ := hlk
  cases hcl.symm.trans hcl'
  obtain ⟨h0, h1, h2, h3, h4⟩ := hc
  rw [jr_pos (n := c) h0]
  have he := jwl_at (G := jGk G k F) (M := M) h0 h1
  rw [jent_obj h2, h3] at he
  have hset : (jwl (jGk G k F) M).set (c - 1) (jad G c, .inr (ci, ((List.range (jnf ci)).map (fun i => jfv (jGk G k F) M c i (jkd ci i))).set j (jr G n))) = jwl (jGk G k (jfup F c j n)) M := by
    unfold jwl
    refine jmap_set (g := fun i => (jad G (i + 1), jent (jGk G k (jfup F c j n)) M (i + 1))) ?_ (fun i hi => ?_)
    · show (jad G (c - 1 + 1), jent (jGk G k (jfup F c j n)) M (c - 1 + 1)) = _
      rw [Nat.sub_add_cancel h0, jent_obj h2, h3]
      congr 3
      refine (jmap_set (g := fun i => jfv (jGk G k (jfup F c j n)) M c i (jkd ci i)) ?_ (fun i hi => ?_)).symm
      · show jfv _ _ _ _ (jkd ci j) = _
        rw [h4]
        show jr (jGk G k (jfup F c j n)) (jfup F c j n c j) = _
        unfold jfup
        rw [if_pos ⟨rfl, rfl⟩]
        rfl
      · show jfv _ _ _ _ _ = jfv _ _ _ _ _
        unfold jfv
        split
        · rfl
        · show jr (jGk G k (jfup F c j n)) (jfup F c j n c i) = jr (jGk G k F) (F c i)
          unfold jfup
          rw [if_neg (fun q => hi q.2)]
          rfl
        · rfl
    · show (jad G (i + 1), jent (jGk G k (jfup F c j n)) M (i + 1)) = (jad G (i + 1), jent (jGk G k F) M (i + 1))
      have hne : i + 1 ≠ c := by omega
      have hFe : ∀ x, jfup F c j n (i + 1) x = F (i + 1) x := fun x => if_neg (fun q => hne q.1)
      congr 1
      unfold jent jfv
      show (match jtag (i + 1) with | 0 => _ | 1 => _ | 2 => _ | 3 => _ | 4 => _ | _ => _) = _
      simp only [show jF (jGk G k (jfup F c j n)) (i + 1) = jF (jGk G k F) (i + 1) from funext hFe]
      rfl
  refine va_putF X1.1 X1.2.1 (own := (jy Y).cls) (ref := C) X1.2.2.2.2.1 hin ty0 hty hnm X1.2.2.2.1 (jFx_k X1 X2 X6 F).K hW.1 (jwl_D (jGl_k X1.gl X2 X6 F)) hS (c - 1) he hcl j hk (X1.2.2.2.2.1 _ hlk) (fun x hx => by rw [hT] at hx; exact hx) hfin (X3 hnm9) hdecl hdesc hn hfit (by rw [List.length_map, List.length_range]; omega) hd (fun H1 locs1 a1 a2 a3 => ?_)
  have a1 : va_P (jD G) jcl ((jwl (jGk G k F) M).set (c - 1) (jad G c, .inr (ci, ((List.range (jnf ci)).map (fun i => jfv (jGk G k F) M c i (jkd ci i))).set j (jr G n)))) H1 := a1
  rw [hset] at a1
  exact K p e s m args below meth c0 H1 locs1 la rm X1 hFt X2 X3 X4 X5 X6 (JC.grow X1.2.2.2.2.2.2.2.2.1 hW hS a1 a3) a3 hl
/-- a number's field -/
theorem JC.putI {index ci j c : Nat} {x : Int32} {ty : FieldType} (hd : decode (jcc Y) pc = .ok (.putfield index, 3)) (hf : jFl (jy Y).cls index ci j) (hp : jFp ci j ty) (hc : 0 < c ∧ c ≤ k ∧ jtag c = 0 ∧ jpar c = ci ∧ jkd ci j = 0) (hn : narrow ty (.int x) = .int x) (hfit : fits ty (.int x) = true) (K : JCQ G Y k0 (pc + 3) ls st k sl F (jup M c j x) Q) : JCQ G Y k0 pc ls (.int x :: jr G c :: st) k sl F M Q := by
  intro p e s m args below meth c0 H locs la rm X1 hFt X2 X3 X4 X5 X6 hW hS hl
  obtain ⟨C, T, N, hcl, hk, hN, hin, hT, hlk⟩ := hf
  obtain ⟨C', T', N', ty0, hcl', hty, hnm, hfin, hdesc⟩ := hp
  cases hcl.symm.trans hcl'
  obtain ⟨h0, h1, h2, h3, hk0⟩ := hc
  rw [jr_pos h0]
  have he := jwl_at (G := jGk G k F) (M := M) h0 h1
  rw [jent_obj h2, h3] at he
  have hset : (jwl (jGk G k F) M).set (c - 1) (jad G c, .inr (ci, ((List.range (jnf ci)).map (fun i => jfv (jGk G k F) M c i (jkd ci i))).set j (.int x))) = jwl (jGk G k F) (jup M c j x) := by
    refine jwl_set (G := jGk G k F) h0 ?_ (fun c' hc' => jent_ne (jup_ne hc'))
    rw [jent_obj h2, h3]
    congr 2
    refine (jmap_set (g := fun i => jfv (jGk G k F) (jup M c j x) c i (jkd ci i)) ?_ (fun i hi => ?_)).symm
    · simp only [hk0, jfv, jup, and_self, if_true]
    · simp only [jfv, jup, hi, and_false, if_false]
  rcases hlk with hlk | ⟨host, hlk⟩
  · refine va_put X1.1 X1.2.1 (own := (jy Y).cls) (ref := C) X1.2.2.2.2.1 hin ty0 hty hnm X1.2.2.2.1 (jFx_k X1 X2 X6 F).K hW.1 (jwl_D (jGl_k X1.gl X2 X6 F)) hS (c - 1) he hcl j hk (X1.2.2.2.2.1 _ hlk) (fun x hx => by rw [hT] at hx; exact hx) hfin hdesc hn hfit (by rw [List.length_map, List.length_range]; omega) hd (fun H1 locs1 a1 a2 a3 => ?_)
    have a1 : va_P (jD G) jcl ((jwl (jGk G k F) M).set (c - 1) (jad G c, .inr (ci, ((List.range (jnf ci)).map (fun i => jfv (jGk G k F) M c i (jkd ci i))).set j (.int x)))) H1 := a1
    rw [hset] at a1
    exact K p e s m args below meth c0 H1 locs1 la rm X1 hFt X2 X3 X4 X5 X6 (JC.grow X1.2.2.2.2.2.2.2.2.1 hW hS a1 a3) a3 hl
  · refine va_putN X1.1 X1.2.1 (own := (jy Y).cls) (ref := C) (host := host) X1.2.2.2.2.1 hin ty0 hty hnm X1.2.2.2.1 (jFx_k X1 X2 X6 F).K hW.1 (jwl_D (jGl_k X1.gl X2 X6 F)) hS (c - 1) he hcl j hk (va_Nw.use rfl (X1.ne hlk)) (fun x hx => by rw [hT] at hx; exact hx) hfin hdesc hn hfit (by rw [List.length_map, List.length_range]; omega) hd (fun H1 locs1 a1 a2 a3 => ?_)
    have a1 : va_P (jD G) jcl ((jwl (jGk G k F) M).set (c - 1) (jad G c, .inr (ci, ((List.range (jnf ci)).map (fun i => jfv (jGk G k F) M c i (jkd ci i))).set j (.int x)))) H1 := a1
    rw [hset] at a1
    exact K p e s m args below meth c0 H1 locs1 la rm X1 hFt X2 X3 X4 X5 X6 (JC.grow X1.2.2.2.2.2.2.2.2.1 hW hS a1 a3) a3 hl
/-- a reference that changes -/
theorem JC.putR {index ci j c : Nat} {n : Nat} {ty : FieldType} (hd : decode (jcc Y) pc = .ok (.putfield index, 3)) (hf : jFl (jy Y).cls index ci j) (hp : jFp ci j ty) (hc : 0 < c ∧ c ≤ k ∧ jtag c = 0 ∧ jpar c = ci ∧ jkd ci j = 2) (hn9 : n < 2 ^ 31) (hn : narrow ty (jr G n) = jr G n) (hfit : fits ty (jr G n) = true) (K : JCQ G Y k0 (pc + 3) ls st k sl F (jup M c j (Int32.ofNat n)) Q) : JCQ G Y k0 pc ls (jr G n :: jr G c :: st) k sl F M Q := by
  intro p e s m args below meth c0 H locs la rm X1 hFt X2 X3 X4 X5 X6 hW hS hl
  obtain ⟨C, T, N, hcl, hk, hN, hin, hT, hlk⟩ := hf
  obtain ⟨C', T', N', ty0, hcl', hty, hnm, hfin, hdesc⟩ := hp
  cases hcl.symm.trans hcl'
  obtain ⟨h0, h1, h2, h3, hk0⟩ := hc
  rw [jr_pos (n := c) h0]
  have hclamp : (Int32.ofNat n).toNatClampNeg = n := nI_clamp hn9
  have he := jwl_at (G := jGk G k F) (M := M) h0 h1
  rw [jent_obj h2, h3] at he
  have hset : (jwl (jGk G k F) M).set (c - 1) (jad G c, .inr (ci, ((List.range (jnf ci)).map (fun i => jfv (jGk G k F) M c i (jkd ci i))).set j (jr G n))) = jwl (jGk G k F) (jup M c j (Int32.ofNat n)) := by
    refine jwl_set (G := jGk G k F) h0 ?_ (fun c' hc' => jent_ne (jup_ne hc'))
    rw [jent_obj h2, h3]
    congr 2
    refine (jmap_set (g := fun i => jfv (jGk G k F) (jup M c j (Int32.ofNat n)) c i (jkd ci i)) ?_ (fun i hi => ?_)).symm
    · simp only [hk0, jfv, jup, and_self, if_true, hclamp]
      rfl
    · simp only [jfv, jup, hi, and_false, if_false]
  rcases hlk with hlk | ⟨host, hlk⟩
  · refine va_put X1.1 X1.2.1 (own := (jy Y).cls) (ref := C) X1.2.2.2.2.1 hin ty0 hty hnm X1.2.2.2.1 (jFx_k X1 X2 X6 F).K hW.1 (jwl_D (jGl_k X1.gl X2 X6 F)) hS (c - 1) he hcl j hk (X1.2.2.2.2.1 _ hlk) (fun x hx => by rw [hT] at hx; exact hx) hfin hdesc hn hfit (by rw [List.length_map, List.length_range]; omega) hd (fun H1 locs1 a1 a2 a3 => ?_)
    have a1 : va_P (jD G) jcl ((jwl (jGk G k F) M).set (c - 1) (jad G c, .inr (ci, ((List.range (jnf ci)).map (fun i => jfv (jGk G k F) M c i (jkd ci i))).set j (jr G n)))) H1 := a1
    rw [hset] at a1
    exact K p e s m args below meth c0 H1 locs1 la rm X1 hFt X2 X3 X4 X5 X6 (JC.grow X1.2.2.2.2.2.2.2.2.1 hW hS a1 a3) a3 hl
  · refine va_putN X1.1 X1.2.1 (own := (jy Y).cls) (ref := C) (host := host) X1.2.2.2.2.1 hin ty0 hty hnm X1.2.2.2.1 (jFx_k X1 X2 X6 F).K hW.1 (jwl_D (jGl_k X1.gl X2 X6 F)) hS (c - 1) he hcl j hk (va_Nw.use rfl (X1.ne hlk)) (fun x hx => by rw [hT] at hx; exact hx) hfin hdesc hn hfit (by rw [List.length_map, List.length_range]; omega) hd (fun H1 locs1 a1 a2 a3 => ?_)
    have a1 : va_P (jD G) jcl ((jwl (jGk G k F) M).set (c - 1) (jad G c, .inr (ci, ((List.range (jnf ci)).map (fun i => jfv (jGk G k F) M c i (jkd ci i))).set j (jr G n)))) H1 := a1
    rw [hset] at a1
    exact K p e s m args below meth c0 H1 locs1 la rm X1 hFt X2 X3 X4 X5 X6 (JC.grow X1.2.2.2.2.2.2.2.2.1 hW hS a1 a3) a3 hl
theorem JC.getF {index ci j c n : Nat} (hd : decode (jcc Y) pc = .ok (.getfield index, 3)) (hf : jFl (jy Y).cls index ci j) (hc : 0 < c ∧ c ≤ k ∧ jtag c = 0 ∧ jpar c = ci ∧ jkd ci j = 1) (hv : F c j = n) (K : JCQ G Y k0 (pc + 3) ls (jr G n :: st) k sl F M Q) : JCQ G Y k0 pc ls (jr G c :: st) k sl F M Q := by
  intro p e s m args below meth c0 H locs la rm X1 hFt X2 X3 X4 X5 X6 hW hS hl
  obtain ⟨C, T, N, hcl, hk, hN, hin, hT, hlk⟩ := hf
  obtain ⟨h0, h1, h2, h3, h4⟩ := hc
  rw [jr_pos h0]
  have K := K p e s m args below meth c0 H locs la rm X1 hFt X2 X3 X4 X5 X6 hW hS hl
  have he := jwl_at (G := jGk G k F) (M := M) h0 h1
  rw [jent_obj h2, h3] at he
  have hv9 : ((List.range (jnf ci)).map (fun i => jfv (jGk G k F) M c i (jkd ci i)))[j]? = some (jr G n) := by
    rw [List.getElem?_map, List.getElem?_range (by omega)]
    show some (jfv (jGk G k F) M c j (jkd ci j)) = _
    rw [h4]
    show some (jr (jGk G k F) (F c j)) = _
    rw [hv]
    rfl
  rcases hlk with hlk | ⟨host, hlk⟩
  · exact va_get X1.1 X1.2.1 (own := (jy Y).cls) (ref := C) X1.2.2.2.2.1 hin X1.2.2.2.1 (jFx_k X1 X2 X6 F).K hW.1 (c - 1) he hcl j hk (X1.2.2.2.2.1 _ hlk) (fun x hx => by rw [hT] at hx; exact hx) hv9 hd K
  · exact va_getN X1.1 X1.2.1 (own := (jy Y).cls) (ref := C) (host := host) X1.2.2.2.2.1 hin X1.2.2.2.1 (jFx_k X1 X2 X6 F).K hW.1 (c - 1) he hcl j hk (va_Nw.use rfl (X1.ne hlk)) (fun x hx => by rw [hT] at hx; exact hx) hv9 hd K
theorem JC.getM {index ci j c n : Nat} (hd : decode (jcc Y) pc = .ok (.getfield index, 3)) (hf : jFl (jy Y).cls index ci j) (hc : 0 < c ∧ c ≤ k ∧ jtag c = 0 ∧ jpar c = ci ∧ jkd ci j = 2) (hv : (M c j).toNatClampNeg = n) (K : JCQ G Y k0 (pc + 3) ls (jr G n :: st) k sl F M Q) : JCQ G Y k0 pc ls (jr G c :: st) k sl F M Q := by
  intro p e s m args below meth c0 H locs la rm X1 hFt X2 X3 X4 X5 X6 hW hS hl
  obtain ⟨C, T, N, hcl, hk, hN, hin, hT, hlk⟩ := hf
  obtain ⟨h0, h1, h2, h3, h4⟩ := hc
  rw [jr_pos h0]
  have K := K p e s m args below meth c0 H locs la rm X1 hFt X2 X3 X4 X5 X6 hW hS hl
  have he := jwl_at (G := jGk G k F) (M := M) h0 h1
  rw [jent_obj h2, h3] at he
  have hv9 : ((List.range (jnf ci)).map (fun i => jfv (jGk G k F) M c i (jkd ci i)))[j]? = some (jr G n) := by
    rw [List.getElem?_map, List.getElem?_range (by omega)]
    show some (jfv (jGk G k F) M c j (jkd ci j)) = _
    rw [h4]
    show some (jr (jGk G k F) (M c j).toNatClampNeg) = _
    rw [hv]
    rfl
  rcases hlk with hlk | ⟨host, hlk⟩
  · exact va_get X1.1 X1.2.1 (own := (jy Y).cls) (ref := C) X1.2.2.2.2.1 hin X1.2.2.2.1 (jFx_k X1 X2 X6 F).K hW.1 (c - 1) he hcl j hk (X1.2.2.2.2.1 _ hlk) (fun x hx => by rw [hT] at hx; exact hx) hv9 hd K
  · exact va_getN X1.1 X1.2.1 (own := (jy Y).cls) (ref := C) (host := host) X1.2.2.2.2.1 hin X1.2.2.2.1 (jFx_k X1 X2 X6 F).K hW.1 (c - 1) he hcl j hk (va_Nw.use rfl (X1.ne hlk)) (fun x hx => by rw [hT] at hx; exact hx) hv9 hd K
theorem JC.gets {index i : Nat} {nm : String} (hd : decode (jcc Y) pc = .ok (.getstatic index, 3)) (hi : i < 33) (hn : jtokN.getD i "" = nm) (hl0 : Cond.fieldLink (jy Y).cls index "CitingLetters$Token" nm "LCitingLetters$Token;" ∈ jw) (K : JCQ G Y k0 (pc + 3) ls (jr G (1001 + i) :: st) k sl F M Q) : JCQ G Y k0 pc ls st k sl F M Q := by
  intro p e s m args below meth c H locs la rm X1 hFt X2 X3 X4 X5 X6 hW hS hl
  subst hn
  have K := K p e s m args below meth c H locs la rm X1 hFt X2 X3 X4 X5 X6 hW hS hl
  rw [jr_pos (by omega)] at K
  exact va_gets X1.1 X1.2.1 (((jFx_k X1 X2 X6 F).En hW hS).1 i hi).1 hS X1.2.2.2.1 (X1.2.2.2.2.1 _ hl0) (fun x hx => hx) hd K
theorem JC.vret (hd : decode (jcc Y) pc = .ok (.return_, 1)) (hr : jret Y = none) (hR : R = (k, F, M)) (h1 : k - k0 = jcs Y) (h2 : sl = jss Y) : JCQ G Y k0 pc ls [] k sl F M (jQofC G Y R) := by
  intro p e s m args below meth c H locs la rm X1 hFt X2 X3 X4 X5 X6 hW hS hl
  subst hR
  subst h2
  rw [h1]
  exact W.vret X1.1 X1.2.1 (X1.2.2.2.2.2.1.trans hr) (fun t ht _ => ⟨rfl, by rw [ht]; exact hW, by rw [ht]; exact hS.1⟩) hS.2.2 hd X1.2.2.2.2.2.2.1
/-- behind the last new cell the constructor goes on as any method -/
theorem JC.toJ {M' : jMem} (hR : R = (k, F, M')) (h1 : k - k0 = jcs Y) (h2 : sl = jss Y) (h : J (jGk G k F) Y pc ls st M (none, M')) : JCQ G Y k0 pc ls st k sl F M (jQofC G Y R) := by
  intro p e s m args below meth c H locs la rm X1 hFt X2 X3 X4 X5 X6 hW hS hl
  subst hR
  subst h2
  rw [h1]
  exact h p e s m args below meth c H locs la rm (jFx_k X1 X2 X6 F) hFt hW hS hl
theorem JC.call (Z : jY) {index c : Nat} {As rest : List Value} {k1 : Nat} {F1 : Nat → Nat → Nat} {M1 : jMem} (hd : decode (jcc Y) pc = .ok (.invokespecial index, 3)) (hm : jMi (jy Z) (jcc Z) (jnL Z) (jret Z) As.length) (hz0 : jret Z = none ∧ (jy Z).name = "<init>" ∧ Cond.instanceMethod (jy Z) ∈ jw) (hlk : jLk (jy Y).cls index (jy Z)) (hz : jd Z + 1 ≤ jd Y ∧ k - k0 + jcs Z ≤ jcs Y ∧ sl + jss Z ≤ jss Y ∧ k1 = k + jcs Z ∧ k1 ≤ jKall) (hc : 0 < c)
    (hct : jCC G Z (jr G c :: As) k F M (k1, F1, M1)) (hst : st = As.reverse ++ jr G c :: rest) (hrs : (rest.map fun v => v.category).sum ≤ 8) (K : JCQ G Y k0 (pc + 3) ls rest k1 (sl + jss Z) F1 M1 Q) : JCQ G Y k0 pc ls st k sl F M Q := by
  intro p e s m args below meth c0 H locs la rm X1 hFt X2 X3 X4 X5 X6 hW hS hl
  obtain ⟨hcode, hini, hdd, hnL, -⟩ := hm
  obtain ⟨hr, hnm, hin⟩ := hz0
  obtain ⟨hz3, hz1, hz2, hk1, hk1'⟩ := hz
  have hM := hct X1.gl X2
  rw [jr_pos hc] at hst hM
  intro T hT X
  have hsz : H.size = jL G + k := by
    have h1 := X.heapSize
    rw [hT] at h1
    have h2 := jWd_lo X2 X6 hW
    omega
  have hp : PreS s H (jPC G (.ref (jad G c) :: As) k F M) (.ref (jad G c) :: As) := ⟨fun a U g mk h => ⟨h.1, h.2.1, h.2.2.1, h.2.2.2.1, jSt.same (u := U) (U := U.calling g mk a) rfl h.2.2.2.2⟩, fun U hU hWm => ⟨rfl, by rw [hU]; exact hW, by rw [hU]; exact hsz, X1.2.2.2.2.2.2.2.1.trans hWm.alike, X1.stt.warm hWm⟩⟩
  have hroom : (jrm (jd Z) (jcs Z) (jss Z)).frames + 1 ≤ rm.frames ∧ 8 + (jnL Z + 11) + (jrm (jd Z) (jcs Z) (jss Z)).locals ≤ rm.locals := by
    obtain ⟨q1, q2, q3, q4⟩ := hFt
    unfold jrm
    dsimp only
    omega
  have hts := X1.2.2.2.2.1
  subst hst
  have hrun : va_Run p (jl G) e rm s m args below meth c0 H locs (k - k0) sl (jcs Z) (jss Z) (F0 m pc la (As.reverse ++ .ref (jad G c) :: rest)) rest (jQC G (k1, F1, M1) (Value.ref (jad G c) :: As).toArray) (jA G) := by
    rcases hlk with hlk | ⟨host, hlk⟩
    · exact va_runI (As := As) (rest := rest) ⟨X1.1, X1.2.1, X1.2.2.1, X1.2.2.2.1, hts⟩ hM ⟨by have h9 := callB_of (own := (jy Y).cls) (index := index) (R := rm) (rm := jrm (jd Z) (jcs Z) (jss Z)) (mc := jcs Z) (ms := jss Z) As.length hts (jws_GI hcode) rfl rfl rfl (hts _ hini) (hts _ hlk) hdd hroom; rw [hr] at h9; exact h9, hnm, hts _ hin⟩ hp rfl rfl hl.1 rfl (lv_room hrs) hd ⟨Nat.le_trans hz1 hFt.2.1, Nat.le_trans hz2 hFt.2.2.1⟩
    · exact va_runIN (As := As) (rest := rest) (host := host) ⟨X1.1, X1.2.1, X1.2.2.1, X1.2.2.2.1, hts⟩ hM ⟨by have h9 := va_cnB (own := (jy Y).cls) (host := host) (index := index) (R := rm) (rm := jrm (jd Z) (jcs Z) (jss Z)) (mc := jcs Z) (ms := jss Z) As.length hts (jws_GI hcode) rfl rfl rfl (X1.ne hlk) (hts _ hini) hdd hroom; rw [hr] at h9; exact h9, hnm, hts _ hin⟩ hp rfl rfl hl.1 rfl (lv_room hrs) hd ⟨Nat.le_trans hz1 hFt.2.1, Nat.le_trans hz2 hFt.2.2.1⟩
  obtain ⟨v, st₀, t, T', L, h0, X', hL, e1, e2, ⟨hv, hw, hsz0⟩, hgo⟩ := hrun T hT X
  cases hv
  have hsz1 : s.heap.size ≤ t.heap.size := by
    rw [h0] at hsz0
    exact Nat.le_trans hS.1 hsz0
  have hS' : va_S (jA G) s.heap t.heap (locs ++ L) := by
    refine ⟨hsz1, fun q h1 h2 => ?_, fun q hq => ?_⟩
    · have hlt : q < jL G := Nat.not_le.mp h2
      have w1 : t.heap[q]? = (js0 G).heap[q]? := hw.2.2 q hlt
      have w2 : H[q]? = (js0 G).heap[q]? := hW.2.2 q hlt
      rw [w1, ← w2]
      exact hS.2.1 q h1 h2
    · rcases List.mem_append.mp hq with h | h
      · exact hS.2.2 q h
      · exact hL q h
  have K := K p e s m args below meth c0 t.heap (locs ++ L) la rm X1 hFt X2 X3 X4 (by omega) hk1' hw hS' hl
  rw [show k1 - k0 = k - k0 + jcs Z by omega] at K
  obtain ⟨t2, a1, b1⟩ := K T' e1 X'
  exact ⟨t2, hgo t2 a1, b1⟩
/-- new int[n][j] -/
theorem JC.mna {index N : Nat} {n j : Int32} {F' : Nat → Nat → Nat} (hd : decode (jcc Y) pc = .ok (.multianewarray index 2, 4)) (hw : Cond.classLink (jy Y).cls index ("[" ++ (FieldType.array .int).toString) ∈ jw ∧ Cond.arrayOver (.array .int) ∈ jw ∧ Cond.arrayClass .int ∈ jw) (hN : n.toNatClampNeg = N) (hk : k + 1 + N ≤ jKall) (ht : jtag (k + 1) = 3 ∧ jpar (k + 1) = N) (hrow : (List.range N).all (fun i => jtag (k + 2 + i) == 1 && jpar (k + 2 + i) == j.toNatClampNeg) = true) (hM : ∀ i, i < N → ∀ q, M (k + 2 + i) q = 0) (hn : ¬ n < 0) (hj : ¬ j < 0) (hb : N ≤ 5000) (hb2 : j.toNatClampNeg ≤ 5000) (hF : F' = fun c i => if c = k + 1 then (if i < N then k + 2 + i else 0) else F c i)
    (hc : k - k0 + (1 + N) ≤ jcs Y) (hs : sl + (N + N * j.toNatClampNeg) ≤ jss Y) (K : JCQ G Y k0 (pc + 4) ls (jr G (k + 1) :: st) (k + 1 + N) (sl + N + N * j.toNatClampNeg) F' M Q) : JCQ G Y k0 pc ls (.int j :: .int n :: st) k sl F M Q := by
  intro p e s m args below meth c H locs la rm X1 hFt X2 X3 X4 X5 X6 hW hS hl
  have hts := X1.2.2.2.2.1
  subst hN
  intro T hT X
  have hsz : H.size = jL G + k := by
    have h1 := X.heapSize
    rw [hT] at h1
    have h2 := jWd_lo X2 X6 hW
    omega
  obtain ⟨vm₁, cA, comp, -, fA, fC, hO, -, X', step⟩ := X.multianewarray2F X1.1 X1.2.2.2.1 (hts _ hw.1) (hts _ hw.2.1) (hts _ hw.2.2) (g := F0 m pc la (.int j :: .int n :: st)) rfl (by rw [X1.2.1]; exact hd) rfl hn hj (by omega) (by show _ * 4 ≤ _; omega) (by omega) rfl rfl (Nat.le_trans hc hFt.2.1) (Nat.le_trans hs hFt.2.2.1)
  have ecA : cA = jcA G 2 := Option.some.inj (Eq.trans (Eq.symm fA) ((jFx_k X1 X2 X6 F).K.2 2 _ rfl).2)
  have ecB : comp = jcA G 0 := Option.some.inj (Eq.trans (Eq.symm fC) ((jFx_k X1 X2 X6 F).K.2 0 _ rfl).2)
  generalize hFl : Jvm.Free.Multi.fill (T.setVm vm₁) cA comp n.toNatClampNeg j.toNatClampNeg (defaultValue .int) n.toNatClampNeg = Fl at X' step
  have hTh : (T.setVm vm₁).heap = H := hT
  obtain ⟨f1, f2, -, -⟩ := Jvm.Free.Multi.fill_facts (T.setVm vm₁) cA comp n.toNatClampNeg j.toNatClampNeg (defaultValue .int) n.toNatClampNeg
  rw [hFl, hTh] at f1 f2
  have hold : ∀ x : Nat, x < H.size → Fl.heap[x]? = H[x]? := fun x hx => by
    have h9 := Jvm.Free.Multi.fill_old (T.setVm vm₁) cA comp n.toNatClampNeg j.toNatClampNeg (defaultValue .int) (a := x) (by rw [hTh]; exact hx) n.toNatClampNeg
    rw [hFl, hTh] at h9
    exact h9
  have hinn : ∀ i : Nat, i < n.toNatClampNeg → Fl.heap[H.size + 1 + i]? = some (vp_cell comp (j.toNatClampNeg, .inl (fun _ => 0))) := fun i hi => by
    have h9 := Jvm.Free.Multi.fill_inner (T.setVm vm₁) cA comp n.toNatClampNeg j.toNatClampNeg (defaultValue .int) n.toNatClampNeg i hi
    rw [hFl, hTh] at h9
    rw [h9]
    congr 1
    show ({ cls := comp, slots := Array.replicate j.toNatClampNeg (.int 0), vm := .none } : Cell) = _
    rw [vp_cell_i, arrV_new]
  have hP' : va_P (jD G) jcl (jwl (jGk G (k + 1 + n.toNatClampNeg) F') M) Fl.heap := by
    intro i q hq
    have hi : i < k + 1 + n.toNatClampNeg := by
      have h9 := (List.getElem?_eq_some_iff.mp hq).1
      simpa [jwl, jGk] using h9
    have hq2 := jwl_at (G := jGk G (k + 1 + n.toNatClampNeg) F') (M := M) (c := i + 1) (by omega) (by show i + 1 ≤ k + 1 + n.toNatClampNeg; omega)
    rw [Nat.add_sub_cancel] at hq2
    rw [hq] at hq2
    cases hq2
    have hadr : jad (jGk G (k + 1 + n.toNatClampNeg) F') (i + 1) = jL G + i := X2.2.2 i (by omega)
    rcases Nat.lt_trichotomy i k with hlt | heq | hgt
    · have hold2 := hW.1 i _ (by have h8 := jwl_at (G := jGk G k F) (M := M) (c := i + 1) (by omega) (by show i + 1 ≤ k; omega); rw [Nat.add_sub_cancel] at h8; exact h8)
      have he : jent (jGk G (k + 1 + n.toNatClampNeg) F') M (i + 1) = jent (jGk G k F) M (i + 1) := by
        have hFe : F' (i + 1) = F (i + 1) := by
          rw [hF]
          funext x
          exact if_neg (by omega)
        unfold jent jfv
        simp only [show jF (jGk G (k + 1 + n.toNatClampNeg) F') (i + 1) = jF (jGk G k F) (i + 1) from hFe]
        rfl
      rw [he]
      exact hold2.kept (hold _ hold2.lt)
    · subst heq
      rw [jent_arr3 ht.1]
      show Fl.heap[jad G (i + 1)]? = some (vp_cell (jcA G 2) (jpar (i + 1), _))
      rw [show jad G (i + 1) = H.size by rw [hsz]; exact hadr, f2, jm_outer, vp_cell_q, ht.2, ecA]
      congr 2
      funext q
      congr 1
      show (if q < n.toNatClampNeg then some (H.size + 1 + q) else none) = jro (jGk G (i + 1 + n.toNatClampNeg) F') (F' (i + 1) q)
      rw [hF]
      unfold jro
      by_cases hql : q < n.toNatClampNeg
      · simp only [if_true, hql]
        rw [if_neg (by omega)]
        have h7 : jad G (i + 2 + q) = jL G + (i + 1 + q) := by
          have h8 := X2.2.2 (i + 1 + q) (by omega)
          rw [show i + 2 + q = i + 1 + q + 1 by omega]
          exact h8
        show some (H.size + 1 + q) = some (jad G (i + 2 + q))
        rw [h7, hsz]
        congr 1
        omega
      · simp only [if_true, hql, if_false]
    · have hr := List.all_eq_true.mp hrow (i - (k + 1)) (List.mem_range.mpr (by omega))
      simp only [Bool.and_eq_true, beq_iff_eq] at hr
      rw [show k + 2 + (i - (k + 1)) = i + 1 by omega] at hr
      have hz0 : M (i + 1) = fun _ => 0 := funext fun q => by
        have h8 := hM (i - (k + 1)) (by omega) q
        rw [show k + 2 + (i - (k + 1)) = i + 1 by omega] at h8
        exact h8
      rw [jent_arr1 hr.1]
      show Fl.heap[jad G (i + 1)]? = some (vp_cell (jcA G 0) (jpar (i + 1), .inl (M (i + 1))))
      have h9 := hinn (i - (k + 1)) (by omega)
      rw [show jad G (i + 1) = H.size + 1 + (i - (k + 1)) by rw [hsz]; have h6 : jad G (i + 1) = jL G + i := hadr; omega, h9, hr.2, hz0, ecB]
  have hS' : va_S (jA G) s.heap Fl.heap locs := ⟨by rw [f1]; have := hS.1; omega, fun x h1 h2 => (hold x (Nat.lt_of_lt_of_le h1 hS.1)).trans (hS.2.1 x h1 h2), hS.2.2⟩
  have K := K p e s m args below meth c Fl.heap locs la rm X1 hFt X2 X3 X4 (by omega) (by omega) (JC.grow X1.2.2.2.2.2.2.2.2.1 hW hS hP' hS') hS' hl
  rw [jr_pos (by omega), X2.2.2 k (by omega), ← hsz, show k + 1 + n.toNatClampNeg - k0 = k - k0 + 1 + n.toNatClampNeg by omega] at K
  obtain ⟨t, a1, b1⟩ := K Fl rfl X'
  refine ⟨t, step t ?_, b1⟩
  have e9 : T.heap.size = H.size := by rw [hT]
  rw [e9]
  exact a1
theorem jCC.of {av : List Value} {n : Nat} (hm : jMi (jy Y) (jcc Y) (jnL Y) (jret Y) n) (hnm : (jy Y).name = "<init>") (ha : jAv 0 av ls) (hlen : ls.length ≤ jnL Y) (hk : k ≤ jKall) (h : JC G Y k 0 ls [] k 0 F M R) : jCC G Y av k F M R := by
  intro hG hQ
  refine Met.ofW (cc := jcc Y) (maxL := jnL Y) (ret := jret Y) hm.2.2.2.2 rfl ?_
  intro p e s m args below meth c s₁ B hml hv
  obtain ⟨rfl, hW, hsz, hal, hne⟩ := hv
  have hts := atoms_spec (ws := jws Y) B.pre
  have hown : s.vm.findClass (jy Y).cls = some m.cls := findClass_of_methodNamed B.named
  have hin : meth.name = "<init>" := (name_of_methodNamed B.named B.method).1.trans hnm
  have X1 : jFx G Y p s m av.toArray meth c := ⟨B.exec, B.bytes, hml, hown, fun w hw => hts w (List.mem_cons_of_mem _ hw), B.returns, B.notSynchronized, hal, by rw [hsz]; exact Nat.le_add_right _ _, hG, hne⟩
  rw [lg_entry_eq]
  have hle := lv_entry av (n := jnL Y) (by rw [ha.2]; exact hlen)
  rw [ha.1] at hle
  have K := h p e s m av.toArray below meth c s.heap [] _ (jrm (jd Y) (jcs Y) (jss Y)) X1 ⟨Nat.le_refl _, Nat.le_refl _, Nat.le_refl _, Nat.le_refl _⟩ hQ (fun _ => hin) hsz (Nat.le_refl _) hk hW va_S.rf hle
  rw [Nat.sub_self] at K
  exact K
end JCR
