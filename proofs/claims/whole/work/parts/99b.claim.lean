/-! THE CLAIM OUT OF ONE WALK OF THE LAW'S BODY. Your part is whole_start (and what it stands on); all else here is the same for every law, but numbers. -/
def R_law : String := "CitingLettersLaw"
def lw_P (b : Addr) (xs : List Int32) (args : Array Value) (s : State) : Prop := args = #[.ref b] ∧ s.IntsAt b xs ∧ xs.length ≤ 3072 ∧ (Jvm.Cond.and given_1 narrow_1).before args s = true
def lw_Q (_ : Array Value) (s : State) (o : Outcome) (t : State) : Prop := o = .returned (some (.int 1)) ∧ Framed s o t [] 601024 7293034
def lw_Z (below : List Frame) (a : Array Value) (s : State) : State → Prop := fun t => ∃ o, t.status = .running ∧ Ended t below o ∧ lw_Q a s o t
/-- the law's own end, with 1 on the stack, nothing written that was there before, its room as the claim has it -/
theorem lw_ret {p : Program} {l : Launch} {e : Env} {s : State} {m : MethodId} {below : List Frame} {meth : Method} {c : Code} {b : Nat} (hx : p.tables.exec = Jvm.exec) (hb : c.code = code) (hr : meth.sig.returnType = ret) (hlocks : meth.locks = false) {pc : Nat} {H : Heap} {ls : Array Slot} (hdg : decode code pc = .ok (.ireturn, 1)) : W p l e room_1 s m #[Value.ref b] below meth c H [] 601024 7293034 (lw_Z below #[Value.ref b] s) (F0 m pc ls [.int 1]) := by
  intro T hT X
  obtain ⟨fs, hret, hrun, hended, hW, hframe⟩ := X.leave (v := some (.int 1)) (hlocks := hlocks) (fun h => by rw [hr] at h; cases h)
  have hmeth' : T.vm.method? m = some meth := X.method'
  refine ⟨T.setFrames fs, ?_, .returned (some (.int 1)), hrun, hended, rfl, ⟨_, rfl⟩, hW, hframe⟩
  jvm_step X.here [X.here.top, hx, hb, hdg, hmeth', hr, ret, narrow_b1]
  (try refine ⟨rfl, ?_⟩); (try refine ⟨rfl, ?_⟩)
  first | (intro acts; rw [hret _ acts rfl rfl rfl]) | rw [hret _ _ rfl rfl rfl]
  exact Steps.refl _
/-- what holds at the law's entry: the machine, the code, the tables' words (any of lw_tbl by 'hts w (by decide +kernel)'), the script of L ints xs at the cell b, what the Statement gives of the start (any of its parts by flat_of_before) -/
def lw_At (p : Program) (s : State) (m : MethodId) (meth : Method) (c : Code) (b L : Nat) (xs : Nat → Int32) : Prop :=
  p.tables.exec = Jvm.exec ∧ c.code = code ∧ meth.sig.returnType = ret ∧ c.maxLocals = 7 ∧ s.vm.findClass R_law = some m.cls ∧ (∀ w ∈ lw_tbl, w.before #[Value.ref b] s = true) ∧ va_X b L xs s s.heap ∧ b < s.heap.size ∧ meth.locks = false ∧ (Jvm.Cond.and given_1 narrow_1).before #[Value.ref b] s = true
theorem room_ok : 46 ≤ room_1.frames ∧ 1024 ≤ room_1.cells ∧ 30000 ≤ room_1.slots ∧ 1860 ≤ room_1.locals := by decide
theorem W_fit {n q : Nat} (hn : n ≤ 513) (hq : q ≤ 3078) : jFit (Y_W n q) room_1 := by
  obtain ⟨h1, h2, h3, h4⟩ := room_ok
  refine ⟨h1, ?_, ?_, h4⟩
  · show 149 + n ≤ room_1.cells
    omega
  · show 19098 + q ≤ room_1.slots
    omega
/-- from the loop's head to the law's end -/
theorem law_loop {G : jG} (hG : jFul G) (h149 : 149 ≤ jK G) (hx : jxE G) {p : Program} {e : Env} {s : State} {m : MethodId} {below : List Frame} {meth : Method} {c : Code} {b L : Nat} {xs : Nat → Int32} (hX : va_X b L xs (js0 G) (js0 G).heap) (hb : b < jL G) (hL : L ≤ 3072) (hsz : jL G = s.heap.size) (F : jFx G (Y_W 0 0) p s m #[Value.ref b] meth c) (hr : meth.sig.returnType = ret) :
    ∀ (d n i N C : Nat) (M : jMem) (H : Heap) (locs : List Loc) (la : Array Slot), L < i + 6 * d + 6 → 6 * n ≤ i → i ≤ 3078 → Rel N C M → jWd G M H → va_S (jA G) s.heap H locs → lv_has la 7 (lawls G b i) →
      W p (jl G) e room_1 s m #[Value.ref b] below meth c H locs (149 + n) (19098 + 6 * n) (lw_Z below #[Value.ref b] s) (F0 m 23 la []) := by
  intro d
  induction d with
  | zero =>
    intro n i N C M H locs la hd h6 hi r hW hS hl
    have T : JQ G (Y_W n (6 * n)) 23 (lawls G b i) [] M (jAt G (Y_W n (6 * n)) 1734 (lawls G b i) [.int 1] M) := law_top hX hb hL hi (fun h => absurd h (by omega)) (fun _ => J.iconst (v := 1) d_W_1733 (by decide) jAt_K)
    refine T.run F (W_fit (by omega) (by omega)) hW hS hl (fun H1 locs1 la1 hW1 hS1 hl1 => ?_)
    refine va_forget (fun z hz => by rw [← hsz]; exact hS1.2.2 z hz) ?_
    refine W.widen (k := 601024) (n := 7293034) (by show 149 + n ≤ 601024; omega) (by show 19098 + 6 * n ≤ 7293034; omega) ?_
    exact lw_ret F.1 F.2.1 hr F.2.2.2.2.2.2.1 d_W_1734
  | succ d ih =>
    intro n i N C M H locs la hd h6 hi r hW hS hl
    by_cases hin : i + 6 ≤ L
    · have T : JQ G (Y_W n (6 * n)) 23 (lawls G b i) [] M (jAt G (Y_W n (6 * n)) 40 (lawls G b i) [.int (xs i &&& 63)] M) := law_top hX hb hL hi (fun _ => jAt_K) (fun h => absurd h (by omega))
      have nx : ∀ (n' q' : Nat) (M' : jMem), JQ G (Y_W n' q') 1727 (lawls G b i) [] M' (jAt G (Y_W n' q') 23 (lawls G b (i + 6)) [] M') := fun n' q' M' => law_next jAt_K
      have f1 : jFit (Y_W n (6 * n)) room_1 := W_fit (by omega) (by omega)
      refine T.run F f1 hW hS hl (fun H1 locs1 la1 hW1 hS1 hl1 => ?_)
      by_cases h11 : xs i &&& 63 = nI 11
      · obtain ⟨rr, v, M2, e0, e1, e2, e3, e4, r2⟩ := q_look r (xs (i + 1)) (xs (i + 2))
        have S1 : JQ G (Y_W n (6 * n)) 40 (lawls G b i) [.int (xs i &&& 63)] M (jAt G (Y_W n (6 * n)) 683 (lawls G b i) [] M) := J.tsIn 683 d_W_40 (v := nI 11) h11 (by decide) (by decide) rfl (by decide) jAt_K
        have f2 : jFit (Y_W (n + 1) (6 * n + 6)) room_1 := W_fit (by omega) (by omega)
        refine S1.run F f1 hW1 hS1 hl1 (fun H2 locs2 la2 hW2 hS2 hl2 => ?_)
        refine law_11 (n := n) (q := 6 * n) hG h149 hx hX hb hL hin e0 e1 e2 e3 e4 F f2 hW2 hS2 hl2 (fun H3 locs3 la3 hW3 hS3 hl3 => ?_)
        refine (nx (n + 1) (6 * n + 6) M2).run F f2 hW3 hS3 hl3 (fun H4 locs4 la4 hW4 hS4 hl4 => ?_)
        exact ih (n + 1) (i + 6) N C M2 H4 locs4 la4 (by omega) (by omega) (by omega) r2 hW4 hS4 hl4
      · obtain ⟨N', C', M', r2, S1⟩ := law_step hG hX hb hL hin r (xs i &&& 63) h11
        refine (S1 n (6 * n)).run F f1 hW1 hS1 hl1 (fun H2 locs2 la2 hW2 hS2 hl2 => ?_)
        refine (nx n (6 * n) M').run F f1 hW2 hS2 hl2 (fun H4 locs4 la4 hW4 hS4 hl4 => ?_)
        exact ih n (i + 6) N' C' M' H4 locs4 la4 (by omega) (by omega) (by omega) r2 hW4 hS4 hl4
    · have T : JQ G (Y_W n (6 * n)) 23 (lawls G b i) [] M (jAt G (Y_W n (6 * n)) 1734 (lawls G b i) [.int 1] M) := law_top hX hb hL hi (fun h => absurd h (by omega)) (fun _ => J.iconst (v := 1) d_W_1733 (by decide) jAt_K)
      refine T.run F (W_fit (by omega) (by omega)) hW hS hl (fun H1 locs1 la1 hW1 hS1 hl1 => ?_)
      refine va_forget (fun z hz => by rw [← hsz]; exact hS1.2.2 z hz) ?_
      refine W.widen (k := 601024) (n := 7293034) (by show 149 + n ≤ 601024; omega) (by show 19098 + 6 * n ≤ 7293034; omega) ?_
      exact lw_ret F.1 F.2.1 hr F.2.2.2.2.2.2.1 d_W_1734
theorem xe_u : ∀ j, j < 1 → (fun _ => Cond.laysStatic Bundle.tN "UNASSIGNED_STACK" Bundle.steD) j ∈ lw_tbl := tw_fam [1205] (by decide +kernel)
theorem xe_s : ∀ j, j < 1 → (fun _ => Cond.laysStatic Bundle.tN "SUPPRESSED_SENTINEL" Bundle.listD) j ∈ lw_tbl := tw_fam [1207] (by decide +kernel)
theorem xe_i : ∀ j, j < 1 → (fun _ => Cond.initialized Bundle.tN) j ∈ lw_tbl := tw_fam [22] (by decide +kernel)
theorem xe_c : ∀ j, j < 1 → (fun _ => Cond.castable xIO xIO) j ∈ lw_tbl := tw_fam [1180] (by decide +kernel)
theorem xe_n : ∀ j, j < 1 → (fun _ => Cond.castable xNS xNS) j ∈ lw_tbl := tw_fam [1247] (by decide +kernel)
theorem xe_d1 : ∀ j, j < 1 → (fun _ => Cond.declares ⟨"java/lang/RuntimeException", "<init>", "(Ljava/lang/String;)V"⟩) j ∈ lw_tbl := tw_fam [1182] (by decide +kernel)
theorem xe_d2 : ∀ j, j < 1 → (fun _ => Cond.declares ⟨"java/lang/Exception", "<init>", "(Ljava/lang/String;)V"⟩) j ∈ lw_tbl := tw_fam [1184] (by decide +kernel)
theorem xe_d3 : ∀ j, j < 1 → (fun _ => Cond.declares ⟨"java/lang/Throwable", "<init>", "(Ljava/lang/String;)V"⟩) j ∈ lw_tbl := tw_fam [1186] (by decide +kernel)
theorem xn_u : ∀ j, j < 1 → (fun _ => Cond.isRef (.static Bundle.tN "UNASSIGNED_STACK" Bundle.steD)) j ∈ nw := nw_fam [163] (by decide +kernel)
theorem xn_s : ∀ j, j < 1 → (fun _ => Cond.isRef (.static Bundle.tN "SUPPRESSED_SENTINEL" Bundle.listD)) j ∈ nw := nw_fam [164] (by decide +kernel)
theorem xn_c : ∀ j, j < 1 → (fun _ => Cond.not (.castable xNS xIO)) j ∈ nw := nw_fam [262] (by decide +kernel)
theorem whole_start {p : Program} {e : Env} {s : State} {m : MethodId} {below : List Frame} {meth : Method} {c : Code} (l : Launch) (hflags : l.flags = flags0) {b L : Nat} {xs : Nat → Int32} (hL : L ≤ 3072) (C0 : lw_At p s m meth c b L xs) : W p l e room_1 s m #[Value.ref b] below meth c s.heap [] 0 0 (lw_Z below #[Value.ref b] s) (entryFrame m ([Value.ref b] : List Value).toArray 7) := by
  obtain ⟨hx, hb, hr, hml, hown, hts, hX, hbl, hlocks, hgv⟩ := id C0
  have hn : ∀ w ∈ nw, w.before #[Value.ref b] s = true := flat_of_before _ hgv
  obtain ⟨G, e1, e2, e3, hg, hseq, hAO, hSt⟩ := st_G l hn hts
  have hK : jK G = 149 := hseq.1
  have hG : jFul G := ⟨by omega, hseq.2.1⟩
  have hnA : ∀ a : Nat, a < s.heap.size → ¬ jA G a := fun a ha h => by
    have h1 : jL G ≤ a := h
    omega
  have hxE : jxE G := by
    refine ⟨?_, ?_, ?_, ⟨?_, ?_, ?_, ?_, ?_⟩, ?_⟩
    · rw [e1]
      unfold Launch.stackTraces
      rw [hflags]
      decide
    · rw [e2]
      exact vx_Zqof (hts _ (xe_u 0 (by omega))) (hts _ (xe_i 0 (by omega))) (hn _ (xn_u 0 (by omega))) hnA
    · rw [e2]
      exact vx_Zqof (hts _ (xe_s 0 (by omega))) (hts _ (xe_i 0 (by omega))) (hn _ (xn_s 0 (by omega))) hnA
    · rw [e2]; exact va_Nw.of rfl (hts _ (xe_c 0 (by omega)))
    · rw [e2]; exact va_Nw.of rfl (hts _ (xe_n 0 (by omega)))
    · rw [e2]; exact va_Nw.of rfl (hts _ (xe_d1 0 (by omega)))
    · rw [e2]; exact va_Nw.of rfl (hts _ (xe_d2 0 (by omega)))
    · rw [e2]; exact va_Nw.of rfl (hts _ (xe_d3 0 (by omega)))
    · rw [e2]; exact va_Nc.of (hn _ (xn_c 0 (by omega)))
  have hXG : va_X b L xs (js0 G) (js0 G).heap := by rw [e2]; exact hX
  have hbG : b < jL G := by omega
  have F : jFx G (Y_W 0 0) p s m #[Value.ref b] meth c := ⟨hx, hb, hml, hown, fun w hw => hts w (List.mem_filter.mp hw).1, hr, hlocks, by rw [e2]; exact Vm.Alike.refl _, Nat.le_of_eq e3, hg, hSt⟩
  have hW0 : jWd (jGk G 0 FS_0) MS_0 s.heap := ⟨fun k q h => by
    rw [show jwl (jGk G 0 FS_0) MS_0 = [] from rfl] at h
    simp at h, Nat.le_of_eq e3, fun q _ => by rw [show js0 (jGk G 0 FS_0) = s from e2]⟩
  have f0 : jFit (Y_W 0 0) room_1 := W_fit (by omega) (by omega)
  have hl := lv_entry ([Value.ref b]) (n := 7) (Nat.le_of_ble_eq_true rfl)
  rw [lg_entry_eq]
  have hl : lv_has _ 7 [(0, Value.ref b)] := hl
  have J1 : JCQ G (Y_W 0 0) 0 0 [(0, .ref b)] [] 0 0 FS_0 MS_0 (jAt G (Y_W 0 0) 20 [(3, jr G 149), (2, jr G 109), (1, jr G 1), (0, .ref b)] [] MS_120) := law_start hAO jAt_K
  intro T hT X
  have X : Stand p (jl G) e room_1 s m #[Value.ref b] below meth c T [] 0 0 := by rw [e1]; exact X
  have KK := J1 p e s m #[Value.ref b] below meth c s.heap [] _ room_1 F f0 hseq (fun h => absurd h (by decide)) (by rw [e3]; rfl) (Nat.le_refl _) (Nat.zero_le _) hW0 va_S.rf hl
  obtain ⟨t, a1, p', e', m', meth', c', locs', la', rm', T', rfl, X', hW', hS', hl'⟩ := KK T hT X
  obtain ⟨rfl, X''⟩ := jtie X X'
  have Z0 : JQ G (Y_W 0 0) 20 [(3, jr G 149), (2, jr G 109), (1, jr G 1), (0, .ref b)] [] MS_120 (jAt G (Y_W 0 0) 23 (lawls G b 0) [] MS_120) := law_zero jAt_K
  have W2 : W p (jl G) e room_1 s m' #[Value.ref b] below meth c T'.heap locs' (149 + 0) (19098 + 0) (lw_Z below #[Value.ref b] s) (F0 m' 20 la' []) := by
    refine Z0.run F f0 hW' hS' hl' (fun H1 locs1 la1 hW1 hS1 hl1 => ?_)
    exact law_loop hG (by omega) hxE hXG hbG hL e3 F hr 512 0 0 0 0 MS_120 H1 locs1 la1 (by omega) (by omega) (by omega) rel_0 hW1 hS1 hl1
  obtain ⟨t2, a2, b2⟩ := W2 T' rfl X''
  exact ⟨t2, a1.trans a2, b2⟩
set_option maxHeartbeats 4000000 in
theorem lw_walk (l : Launch) (hflags : l.flags = flags0) (b : Addr) (xs : List Int32) : MetFree l x (headSpec (Jvm.Cond.code x code maxLocals ret :: tables_1) room_1) (lw_P b xs) (fun _ _ _ _ _ => True) lw_Q := by
  refine MetFree.of_bodyS (code := code) (maxLocals := maxLocals) (ret := ret) (by decide) ?_ ?_
  · intro args s m h hn
    obtain ⟨meth, c, h1, h2, h3, h4, h5, h6, -, -⟩ := Cond.code_spec hn (atoms_spec (ws := Jvm.Cond.code x code maxLocals ret :: tables_1) h _ List.mem_cons_self)
    exact ⟨meth, c, h1, h2, h3, h4, h5, h6⟩
  · intro p e s m args below meth c s₁ B hml0 hP _
    obtain ⟨rfl, hx, hbd, hgv⟩ := hP
    obtain ⟨scr, harrAt, hlist, hof, hsmall⟩ := hx
    obtain ⟨hcb, hkn, -, -⟩ := State.arrayAt?_spec harrAt
    have hown : s.vm.findClass R_law = some m.cls := findClass_of_methodNamed B.named
    have hts0 : ∀ c ∈ (Jvm.Cond.code x code maxLocals ret :: tables_1), c.before #[Value.ref b] s = true := atoms_spec (ws := Jvm.Cond.code x code maxLocals ret :: tables_1) B.pre
    have hts : ∀ w ∈ lw_tbl, w.before #[Value.ref b] s = true := k2_hts_sels lw_privs (fun w hw => hts0 w (List.mem_cons_of_mem _ hw)) lw_privs_ok
    have hml : c.maxLocals = 7 := B.maxLocals_eq (hts0 _ List.mem_cons_self)
    have X₀ : Stand p l e room_1 s m #[Value.ref b] below meth c s₁ [] 0 0 := Stand.of_body B
    have hh0 : s₁.heap = s.heap := by rw [B.state]; rfl
    have hsz : scr.slots.size = xs.length := by rw [← Array.length_toList, hlist, List.length_map]
    have hval : ∀ j : Nat, j < xs.length → scr.slots[j]? = some (.int (xs.getD j 0)) := fun j hj => by
      rw [← Array.getElem?_toList, hlist]
      simp [hj]
    have hbl : b < s.heap.size := (Array.getElem?_eq_some_iff.mp hcb).1
    have hX : va_X b xs.length (fun j => xs.getD j 0) s s.heap := ⟨scr, hcb, hof, hkn, hsz, hval⟩
    have K : W p l e room_1 s m #[Value.ref b] below meth c s₁.heap [] 0 0 (lw_Z below #[Value.ref b] s) (entryFrame m ([Value.ref b] : List Value).toArray 7) := by
      rw [hh0]
      exact whole_start l hflags hbd ⟨B.exec, B.bytes, B.returns, hml, hown, hts, hX, hbl, B.notSynchronized, hgv⟩
    obtain ⟨t, a1, o, b1, b2, b3⟩ := K s₁ rfl X₀
    exact ⟨t, o, a1, b1, b2, b3⟩
theorem lw_pre_spec {args : Array Value} {s : State} (h : (Jvm.Cond.and given_1 narrow_1).before args s = true) (hr : rest_1_c.before args s = true) : ∃ (b : Addr) (xs : List Int32), lw_P b xs args s := by
  have hs := flat_of_before _ h
  have hq := flat_of_before _ hr
  have hc : (Cond.count 1).before args s = true := hs _ (by decide +kernel)
  have harr : (Cond.arrayOf (.arg 0) .int).before args s = true := hs _ (by decide +kernel)
  have hle : (Cond.le (.length (.arg 0)) (.int 3072)).before args s = true := hs _ (by decide +kernel)
  have hlen : (Cond.isInt (.length (.arg 0))).before args s = true := hq _ (by decide +kernel)
  have hall : (Cond.all (.arg 0) (.isInt (.elem (.arg 0) (.index 0)))).before args s = true := hq _ (by decide +kernel)
  obtain ⟨b, xs, hb, hx⟩ := State.ints_of_pre rfl harr hlen hall
  have hsm : xs.length < 2 ^ 31 := hx.choose_spec.2.2.2
  have hev : (Term.length (.arg 0)).eval args s none [] s = some (.int xs.length.toInt32) := hx.length_eval hb
  have hv := Cond.le_ints hev (show (Term.int 3072).eval args s none [] s = some (.int 3072) from rfl)
  have hd : xs.length.toInt32 ≤ 3072 := by
    simpa [Cond.before, Cond.holds, hv] using hle
  have hN : xs.length ≤ 3072 := (Int32.ofNat_le_ofNat hsm (by decide)).mp (show Int32.ofNat xs.length ≤ Int32.ofNat 3072 from hd)
  exact ⟨b, xs, Cond.one_arg hc (show args[0]? = some (.ref b) from hb), hx, hN, h⟩
theorem lw_comes (l : Launch) (hflags : l.flags = flags0) : Comes l x (Jvm.Cond.code x code maxLocals ret :: tables_1) room_1 (fun tb e args s => Calls_1 tb e args s ∧ rest_1 tb e args s ∧ Pre_1 tb e args s)
    (fun _ _ args s o t => lw_Q args s o t) := by
  intro p e ha hc hk s m args below hf hfit hheap happ hpre
  obtain ⟨b, xs, hP⟩ := lw_pre_spec hpre.2.2 hpre.2.1
  obtain ⟨k, o, h1, h2, h3, hQ⟩ := lw_walk l hflags b xs p e ha hc hk s m args below hf ((Spec.applies_iff_loose hf).mp happ).1 hP trivial
  exact ⟨k, o, h1, h2, h3, hQ⟩
theorem lw_frame {s t : State} {o : Outcome} {args : Array Value} (h : Framed s o t [] 601024 7293034) :
    Framed s o t (fieldLocs frame_1_writes args s ++ arrayLocs frame_1_arrays args s ++ staticLocs frame_1_statics s) 601024 7293034 := h
theorem lw_limb (L : Cond) (hL : ∀ (args : Array Value) (s t : State), L.after args s (.returned (some (.int 1))) t = true) :
    ArmFor flags0 classFile x code maxLocals ret World_1 tables_1 room_1 Calls_1 rest_1 Pre_1
      (fun tb e a s o t => postC L tb e a s o t ∧ Framed s o t (fieldLocs frame_1_writes a s ++ arrayLocs frame_1_arrays a s ++ staticLocs frame_1_statics s) 601024 7293034) := by
  intro l hflags _ _ p e ha hc hk s m args below hf hfit hheap happ hpre
  obtain ⟨k, o, h1, h2, h3, rfl, hF⟩ := lw_comes l hflags p e ha hc hk s m args below hf hfit hheap happ hpre
  exact ⟨k, _, h1, h2, h3, hL args s _, lw_frame hF⟩
theorem i_vc : Claimed_1_1 ∧ Claimed_1_2 := ⟨lw_limb limb_1_1 (fun args s t => by simp [limb_1_1, Cond.after, Cond.holds, Cond.value]), lw_limb limb_1_2 (fun args s t => Cond.after_iff.mpr (by
  first | (rw [show limb_1_2 = Cond.eq .result (.int 1) from rfl, Cond.eq_ints (x := 1) (y := 1) rfl rfl]; simp; done) | (simp [limb_1_2, Cond.value, Term.eval]; done)))⟩
