/-! from a walk to a place of it, and on with what holds there; what a throw wants of the start -/
def jAt (G : jG) (Y : jY) (pc : Nat) (ls : List (Nat × Value)) (st : List Value) (M : jMem) : jQT := fun below args s t =>
  ∃ (p : Program) (e : Env) (m : MethodId) (meth : Method) (c : Code) (locs : List Loc) (la : Array Slot) (rm : Room) (T : State), t = T.setTop (F0 m pc la st) ∧ Stand p (jl G) e rm s m args below meth c T locs (jcs Y) (jss Y) ∧ jWd G M T.heap ∧ va_S (jA G) s.heap T.heap locs ∧ lv_has la (jnL Y) ls
theorem jAt_K {G : jG} {Y : jY} {pc : Nat} {ls : List (Nat × Value)} {st : List Value} {M : jMem} : JQ G Y pc ls st M (jAt G Y pc ls st M) := by
  intro p e s m args below meth c H locs la rm F hF hW hS hl T hT X
  subst hT
  exact ⟨_, Steps.refl _, p, e, m, meth, c, locs, la, rm, T, rfl, X, hW, hS, hl⟩
theorem jtie {p p' : Program} {l : Launch} {e e' : Env} {R R' : Room} {s : State} {m m' : MethodId} {args : Array Value} {below : List Frame} {meth meth' : Method} {c c' : Code} {T0 T : State} {locs0 locs : List Loc} {c0 s0 c1 s1 : Nat} (X0 : Stand p l e R s m args below meth c T0 locs0 c0 s0) (X : Stand p' l e' R' s m' args below meth' c' T locs c1 s1) : m' = m ∧ Stand p l e R s m args below meth c T locs c1 s1 := by
  have h1 : m' = m := by
    have h := X0.frames.symm.trans X.frames
    injection h with h _
    injection h with h _
    exact h.symm
  subst h1
  have h2 : meth' = meth := Option.some.inj (X.method.symm.trans X0.method)
  subst h2
  have h3 : c' = c := Option.some.inj (X.code.symm.trans X0.code)
  subst h3
  refine ⟨rfl, ⟨X0.admits, X0.cas, X0.clock, X0.frames, X0.room, X0.hears, X0.method, X0.code, X.here, X.tail, X.warmed, ?_, X.bytes, X.same⟩⟩
  show e.platform.limitsFor T.me.stackBytes = e.platform.limitsFor s.me.stackBytes
  rw [X.bytes]
theorem JQ.run {G : jG} {Y Y' : jY} {pc pc' : Nat} {ls ls' : List (Nat × Value)} {st st' : List Value} {M M' : jMem} {Q : State → Prop} (J0 : JQ G Y pc ls st M (jAt G Y' pc' ls' st' M')) {p : Program} {e : Env} {s : State} {m : MethodId} {args : Array Value} {below : List Frame} {meth : Method} {c : Code} {H : Heap} {locs : List Loc} {la : Array Slot} {rm : Room} (F : jFx G Y p s m args meth c) (hF : jFit Y rm) (hW : jWd G M H) (hS : va_S (jA G) s.heap H locs) (hl : lv_has la (jnL Y) ls)
    (K : ∀ (H1 : Heap) (locs1 : List Loc) (la1 : Array Slot), jWd G M' H1 → va_S (jA G) s.heap H1 locs1 → lv_has la1 (jnL Y') ls' → W p (jl G) e rm s m args below meth c H1 locs1 (jcs Y') (jss Y') Q (F0 m pc' la1 st')) : W p (jl G) e rm s m args below meth c H locs (jcs Y) (jss Y) Q (F0 m pc la st) := by
  intro T hT X
  obtain ⟨t, a1, p', e', m', meth', c', locs', la', rm', T', rfl, X', hW', hS', hl'⟩ := J0 p e s m args below meth c H locs la rm F hF hW hS hl T hT X
  obtain ⟨rfl, X''⟩ := jtie X X'
  obtain ⟨t2, a2, b2⟩ := K T'.heap locs' la' hW' hS' hl' T' rfl X''
  exact ⟨t2, a1.trans a2, b2⟩
abbrev xIO : String := "java/lang/IndexOutOfBoundsException"
abbrev xNS : String := "java/util/NoSuchElementException"
abbrev xNm : List String := ["java/lang/RuntimeException", "java/lang/Exception"]
def jxE (G : jG) : Prop := (jl G).stackTraces = false ∧ vx_Zq Bundle.tN "UNASSIGNED_STACK" Bundle.steD (jA G) (js0 G) (js0 G).heap ∧ vx_Zq Bundle.tN "SUPPRESSED_SENTINEL" Bundle.listD (jA G) (js0 G) (js0 G).heap ∧ (va_Nw (.castable xIO xIO) (js0 G) ∧ va_Nw (.castable xNS xNS) (js0 G) ∧ va_Nw (.declares ⟨"java/lang/RuntimeException", "<init>", "(Ljava/lang/String;)V"⟩) (js0 G) ∧ va_Nw (.declares ⟨"java/lang/Exception", "<init>", "(Ljava/lang/String;)V"⟩) (js0 G) ∧ va_Nw (.declares ⟨"java/lang/Throwable", "<init>", "(Ljava/lang/String;)V"⟩) (js0 G)) ∧ va_Nc xNS xIO (js0 G)
theorem nwC_moved {C T : String} {u U : State} (hvm : u.vm.Alike U.vm) (hZ : va_Nw (.castable C T) u) : va_Nw (.castable C T) U := va_tabs rfl (rfl : (u.setVm U.vm).vm = U.vm) (by rw [Cond.castable_setVm hvm]; exact hZ)
theorem nwD_moved {x : MethodName} {u U : State} (hvm : u.vm.Alike U.vm) (hZ : va_Nw (.declares x) u) : va_Nw (.declares x) U := va_tabs rfl (rfl : (u.setVm U.vm).vm = U.vm) (by rw [Cond.declares_setVm hvm]; exact hZ)
section TH
variable {G : jG} {Y : jY} {p : Program} {e : Env} {s : State} {m : MethodId} {args : Array Value} {below : List Frame} {meth : Method} {c : Code} {H : Heap} {locs : List Loc} {M : jMem}
theorem jxZ {C n d : String} (h : vx_Zq C n d (jA G) (js0 G) (js0 G).heap) (F : jFx G Y p s m args meth c) (hW : jWd G M H) (hS : va_S (jA G) s.heap H locs) : vx_Zq C n d (jA G) s s.heap := by
  have hz := F.gl.2.2.2.1
  refine vx_Zq.moved F.2.2.2.2.2.2.2.1 (h.kept fun q h1 h2 => ?_)
  have hlt : q < jL G := Nat.not_le.mp h2
  rw [← hW.2.2 q hlt]
  exact (hS.2.1 q (Nat.lt_of_lt_of_le hlt F.2.2.2.2.2.2.2.2.1) h2).symm
theorem jWd.ext {H1 : Heap} (h : jWd G M H) (h1 : H.size ≤ H1.size) (h2 : ∀ q : Nat, q < H.size → H1[q]? = H[q]?) : jWd G M H1 := by
  refine ⟨h.1.kept fun k q hk => h2 _ (vx_lt h.1 hk), Nat.le_trans h.2.1 h1, fun q hq => ?_⟩
  rw [h2 q (Nat.lt_of_lt_of_le hq h.2.1)]
  exact h.2.2 q hq
theorem at_IO : ∀ w ∈ (vx_atS "CitingLetters" 169 xIO xNm).filter goodWord, w ∈ lw_tbl := by decide +kernel
theorem at_jw {L : List Cond} (h : ∀ w ∈ L.filter goodWord, w ∈ lw_tbl) : ∀ w ∈ L.filter goodWord, w ∈ jw := fun w hw => List.mem_filter.mpr ⟨h w hw, (List.mem_filter.mp hw).2⟩
theorem at_IO2 (hx : jxE G) (F : jFx G Y p s m args meth c) : ∀ w ∈ vx_atS "CitingLetters" 169 xIO xNm, w.before args s = true := by
  obtain ⟨-, -, -, ⟨h1, -, h3, h4, h5⟩, -⟩ := hx
  have hv := F.2.2.2.2.2.2.2.1
  exact vx_hat (L := vx_atS "CitingLetters" 169 xIO xNm) (B := [.castable xIO xIO, .declares ⟨"java/lang/RuntimeException", "<init>", "(Ljava/lang/String;)V"⟩, .declares ⟨"java/lang/Exception", "<init>", "(Ljava/lang/String;)V"⟩, .declares ⟨"java/lang/Throwable", "<init>", "(Ljava/lang/String;)V"⟩]) (fun w hw => F.2.2.2.2.1 w (at_jw at_IO w hw)) (by decide +kernel) (vx_c (va_Nw.use rfl (nwC_moved hv h1)) (vx_c (va_Nw.use rfl (nwD_moved hv h3)) (vx_c (va_Nw.use rfl (nwD_moved hv h4)) (vx_c (va_Nw.use rfl (nwD_moved hv h5)) vx_n))))
end TH
