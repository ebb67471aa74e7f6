/-! the law: its call of the two looks (case 11) -/
set_option maxRecDepth 20000
theorem d_W_683 : decode code 683 = .ok (.aload_n 1, 1) := by decide +kernel
theorem d_W_684 : decode code 684 = .ok (.aload_n 0, 1) := by decide +kernel
theorem d_W_685 : decode code 685 = .ok (.iload 4, 2) := by decide +kernel
theorem d_W_687 : decode code 687 = .ok (.iconst 1, 1) := by decide +kernel
theorem d_W_688 : decode code 688 = .ok (.iadd, 1) := by decide +kernel
theorem d_W_689 : decode code 689 = .ok (.iaload, 1) := by decide +kernel
theorem d_W_690 : decode code 690 = .ok (.aload_n 0, 1) := by decide +kernel
theorem d_W_691 : decode code 691 = .ok (.iload 4, 2) := by decide +kernel
theorem d_W_693 : decode code 693 = .ok (.iconst 2, 1) := by decide +kernel
theorem d_W_694 : decode code 694 = .ok (.iadd, 1) := by decide +kernel
theorem d_W_695 : decode code 695 = .ok (.iaload, 1) := by decide +kernel
theorem d_W_696 : decode code 696 = .ok (.aload_n 3, 1) := by decide +kernel
theorem d_W_697 : decode code 697 = .ok (.invokestatic 70, 3) := by decide +kernel
theorem d_W_700 : decode code 700 = .ok (.istore 5, 2) := by decide +kernel
theorem d_W_702 : decode code 702 = .ok (.aload_n 2, 1) := by decide +kernel
theorem d_W_703 : decode code 703 = .ok (.aload_n 0, 1) := by decide +kernel
theorem d_W_704 : decode code 704 = .ok (.iload 4, 2) := by decide +kernel
theorem d_W_706 : decode code 706 = .ok (.iconst 1, 1) := by decide +kernel
theorem d_W_707 : decode code 707 = .ok (.iadd, 1) := by decide +kernel
theorem d_W_708 : decode code 708 = .ok (.iaload, 1) := by decide +kernel
theorem d_W_709 : decode code 709 = .ok (.aload_n 0, 1) := by decide +kernel
theorem d_W_710 : decode code 710 = .ok (.iload 4, 2) := by decide +kernel
theorem d_W_712 : decode code 712 = .ok (.iconst 2, 1) := by decide +kernel
theorem d_W_713 : decode code 713 = .ok (.iadd, 1) := by decide +kernel
theorem d_W_714 : decode code 714 = .ok (.iaload, 1) := by decide +kernel
theorem d_W_715 : decode code 715 = .ok (.invokevirtual 75, 3) := by decide +kernel
theorem d_W_718 : decode code 718 = .ok (.istore 6, 2) := by decide +kernel
theorem d_W_720 : decode code 720 = .ok (.aload_n 2, 1) := by decide +kernel
theorem d_W_721 : decode code 721 = .ok (.invokevirtual 76, 3) := by decide +kernel
theorem d_W_724 : decode code 724 = .ok (.iload 5, 2) := by decide +kernel
theorem d_W_726 : decode code 726 = .ok (.if_icmp .eq 5, 3) := by decide +kernel
theorem d_W_731 : decode code 731 = .ok (.iload 5, 2) := by decide +kernel
theorem d_W_733 : decode code 733 = .ok (.ifCond .ne 15, 3) := by decide +kernel
theorem d_W_736 : decode code 736 = .ok (.aload_n 3, 1) := by decide +kernel
theorem d_W_737 : decode code 737 = .ok (.iconst 0, 1) := by decide +kernel
theorem d_W_738 : decode code 738 = .ok (.laload, 1) := by decide +kernel
theorem d_W_739 : decode code 739 = .ok (.iload 6, 2) := by decide +kernel
theorem d_W_741 : decode code 741 = .ok (.i2l, 1) := by decide +kernel
theorem d_W_742 : decode code 742 = .ok (.lcmp, 1) := by decide +kernel
theorem d_W_743 : decode code 743 = .ok (.ifCond .eq 5, 3) := by decide +kernel
theorem d_W_748 : decode code 748 = .ok (.goto 979, 3) := by decide +kernel
theorem lk_W_75 : jLk "CitingLettersLaw" 75 ⟨"CitingLettersModel", "look", "(II)I"⟩ := Or.inl (jt_8 3 rfl rfl)
theorem lk_W_76 : jLk "CitingLettersLaw" 76 ⟨"CitingLettersModel", "thrown", "()I"⟩ := Or.inl (jt_7 41 rfl rfl)
theorem wl_GI : GoodIn jw wsWL := fun w hw => by
  rcases List.mem_cons.mp hw with rfl | hw
  · have h : Cond.codeWith yWL method_3_code 5 (some .int) hhWL ∈ jw := jt_5 211 rfl rfl
    exact ⟨h, jw_good h⟩
  · exact ⟨hw, jw_good hw⟩
section L11
variable {G : jG} {n q b L i : Nat} {xs : Nat → Int32} {M M2 M3 : jMem} {v : Int32}
theorem law_11a (hX : va_X b L xs (js0 G) (js0 G).heap) (hb : b < jL G) (hL : L ≤ 3072) (hi : i + 6 ≤ L) : JQ G (Y_W n q) 683 (lawls G b i) [] M (jAt G (Y_W n q) 697 (lawls G b i) [jr G 149, .int (xs (i + 2)), .int (xs (i + 1)), jr G 1] M) := by
  refine J.aload_n 3 d_W_683 rfl rfl ?_
  refine law_arg 1 hX hb hL (by omega) (by decide) rfl rfl d_W_684 d_W_685 d_W_687 d_W_688 d_W_689 ?_
  refine law_arg 2 hX hb hL (by omega) (by decide) rfl rfl d_W_690 d_W_691 d_W_693 d_W_694 d_W_695 ?_
  exact J.aload_n 1 d_W_696 rfl rfl jAt_K
theorem law_11b (hG : jFul G) (h149 : 149 ≤ jK G) (hX : va_X b L xs (js0 G) (js0 G).heap) (hb : b < jL G) (hL : L ≤ 3072) (hi : i + 6 ≤ L) {a : Int32} (h2 : f_M_look (xs (i + 1)) (xs (i + 2)) M = some (v, M2)) (h3 : f_M_thrown M2 = some (a, M3)) (h4 : a = 0 → v = M3 149 0) : JQ G (Y_W n q) 700 (lawls G b i) [.int a] M (jAt G (Y_W n q) 1727 (lawls G b i) [] M3) := by
  refine J.istore (lv := (5, .int a) :: lawls G b i) d_W_700 (Nat.le_of_ble_eq_true rfl) rfl ?_
  refine J.sub (ls' := lawls G b i ++ [(5, .int a)]) [1, 2, 3, 4, 5, 0] rfl ?_
  refine J.aload_n 2 d_W_702 rfl rfl ?_
  refine law_arg 1 hX hb hL (by omega) (by decide) rfl rfl d_W_703 d_W_704 d_W_706 d_W_707 d_W_708 ?_
  refine law_arg 2 hX hb hL (by omega) (by decide) rfl rfl d_W_709 d_W_710 d_W_712 d_W_713 d_W_714 ?_
  refine J.cVi (ci := 10) Y_M_look (As := [.int (xs (i + 1)), .int (xs (i + 2))]) (rest := []) hG d_W_715 mi_M_look mv_M_look lk_W_75 ⟨rfl, rfl, (Nat.le_of_ble_eq_true rfl)⟩ ⟨rfl, rfl⟩ ⟨_, _, rfl⟩ (c_M_look hG h2) rfl (Nat.le_trans jcN (Nat.le_of_ble_eq_true rfl)) ?_
  refine J.istore (lv := (6, .int v) :: (lawls G b i ++ [(5, .int a)])) d_W_718 (Nat.le_of_ble_eq_true rfl) rfl ?_
  refine J.aload_n 3 d_W_720 rfl rfl ?_
  refine J.cVi (ci := 10) Y_M_thrown (As := []) (rest := []) hG d_W_721 mi_M_thrown mv_M_thrown lk_W_76 ⟨rfl, rfl, (Nat.le_of_ble_eq_true rfl)⟩ ⟨rfl, rfl⟩ ⟨_, _, rfl⟩ (c_M_thrown hG h3) rfl (Nat.le_trans jcN (Nat.le_of_ble_eq_true rfl)) ?_
  refine J.iload 6 d_W_724 rfl ?_
  have fin : JQ G (Y_W n q) 748 ((6, .int v) :: (lawls G b i ++ [(5, .int a)])) [] M3 (jAt G (Y_W n q) 1727 (lawls G b i) [] M3) := by
    refine J.goto 1727 d_W_748 rfl ?_
    exact J.sub [1, 2, 3, 4, 5] rfl jAt_K
  refine J.icmp_eq 731 d_W_726 rfl (fun _ => ?_) (fun e => absurd rfl e)
  refine J.iload 6 d_W_731 rfl ?_
  refine J.if_ne 748 d_W_733 rfl (fun _ => fin) (fun c => ?_)
  refine J.aload_n 2 d_W_736 rfl rfl ?_
  refine J.iconst (v := 0) d_W_737 (by decide) ?_
  refine J.lald149 h149 d_W_738 ?_
  refine J.iload 0 d_W_739 rfl ?_
  refine J.i2l d_W_741 ?_
  rw [← h4 c]
  refine J.lcmp0 d_W_742 ?_
  exact J.if_eq 748 d_W_743 rfl (fun _ => fin) (fun e => absurd rfl e)
theorem law_11 (hG : jFul G) (h149 : 149 ≤ jK G) (hx : jxE G) (hX : va_X b L xs (js0 G) (js0 G).heap) (hb : b < jL G) (hL : L ≤ 3072) (hi : i + 6 ≤ L) {r : (Nat × Int32) × jMem} (hr : r = ((0, r.1.2), r.2) ∨ r = ((1, 0), r.2) ∨ r = ((2, 0), r.2)) (h1 : f_C_look (xs (i + 1)) (xs (i + 2)) M = some r) (h2 : f_M_look (xs (i + 1)) (xs (i + 2)) (mW r) = some (v, M2)) (h3 : f_M_thrown M2 = some (Int32.ofNat r.1.1, M3)) (h4 : Int32.ofNat r.1.1 = 0 → v = M3 149 0)
    {p : Program} {e : Env} {s : State} {m : MethodId} {args : Array Value} {below : List Frame} {meth : Method} {c : Code} {H : Heap} {locs : List Loc} {la : Array Slot} {rm : Room} {Q : State → Prop} (F : jFx G (Y_W n q) p s m args meth c) (hF : jFit (Y_W (n + 1) (q + 6)) rm) (hW : jWd G M H) (hS : va_S (jA G) s.heap H locs) (hl : lv_has la 7 (lawls G b i))
    (K : ∀ (H1 : Heap) (locs1 : List Loc) (la1 : Array Slot), jWd G M3 H1 → va_S (jA G) s.heap H1 locs1 → lv_has la1 7 (lawls G b i) → W p (jl G) e rm s m args below meth c H1 locs1 (149 + (n + 1)) (19098 + (q + 6)) Q (F0 m 1727 la1 [])) : W p (jl G) e rm s m args below meth c H locs (149 + n) (19098 + q) Q (F0 m 683 la []) := by
  have hF0 : jFit (Y_W n q) rm := ⟨hF.1, Nat.le_trans (Nat.le_succ _) hF.2.1, Nat.le_trans (Nat.le_add_right _ 6) (by have := hF.2.2.1; show 19098 + q + 6 ≤ rm.slots; have h9 : 19098 + (q + 6) ≤ rm.slots := this; omega), hF.2.2.2⟩
  refine (law_11a hX hb hL hi).run F hF0 hW hS hl (fun H1 locs1 la1 hW1 hS1 hl1 => ?_)
  have hjw := F.2.2.2.2.1
  have hM := c_W_look hG h149 hx F.gl hr h1
  have hp : PreS s H1 (jPc G [jr G 1, .int (xs (i + 1)), .int (xs (i + 2)), jr G 149] M) [jr G 1, .int (xs (i + 1)), .int (xs (i + 2)), jr G 149] := ⟨jPc_blind, fun U hU hWm => ⟨rfl, by rw [hU]; exact hW1, F.2.2.2.2.2.2.2.1.trans hWm.alike, F.stt.warm hWm⟩⟩
  have hfr : (jrm 7 1 6).frames + 1 ≤ rm.frames ∧ 8 + (5 + 11) + (jrm 7 1 6).locals ≤ rm.locals := by
    obtain ⟨q1, q2, q3, q4⟩ := hF
    have q1 : 45 + 1 ≤ rm.frames := q1
    have q4 : 40 * 45 + 60 ≤ rm.locals := q4
    exact ⟨Nat.le_trans (Nat.le_of_ble_eq_true rfl) q1, Nat.le_trans (Nat.le_of_ble_eq_true rfl) q4⟩
  have hfit : 149 + n + 1 ≤ rm.cells ∧ 19098 + q + 6 ≤ rm.slots := by
    obtain ⟨q1, q2, q3, q4⟩ := hF
    have q2 : 149 + (n + 1) ≤ rm.cells := q2
    have q3 : 19098 + (q + 6) ≤ rm.slots := q3
    omega
  have cw : vx_CSW rm s args "CitingLettersLaw" 70 yWL method_3_code 5 (some .int) hhWL wsWL (jrm 7 1 6) 1 6 4 := by
    refine ⟨⟨rfl, rfl, hfr.1, hfr.2, pay_in hjw wl_GI, List.mem_cons_self⟩, hjw _ (jt_5 211 rfl rfl), hjw _ (jt_1 0 rfl rfl), ⟨by decide, by decide⟩, fun sig h => ?_, hjw _ (jt_5 209 rfl rfl), hjw _ (jt_5 210 rfl rfl)⟩
    have h2 : (parseMethodDescriptor yWL.desc).map (fun d => d.parameters.length) = some 4 := by decide +kernel
    rw [h] at h2
    exact (Option.some.inj h2).symm
  have hrun := vx_runSW (As := [jr G 1, .int (xs (i + 1)), .int (xs (i + 2)), jr G 149]) (rest := []) (g := F0 m 697 la1 [jr G 149, .int (xs (i + 2)), .int (xs (i + 1)), jr G 1]) (cells := 149 + n) (slots := 19098 + q) (locs := locs1) (below := below) (meth := meth) (e := e) (H := H1) (cc := code) (nL := 7) ⟨F.1, F.2.1, F.2.2.1, F.2.2.2.1, hjw⟩ hM cw hp rfl rfl hl1.1 rfl (lv_room (Nat.le_trans jcN (Nat.le_of_ble_eq_true rfl))) d_W_697 hfit
  intro T hT X
  obtain ⟨v0, st₀, t, T', LL, h0, X', hLL, e1, e2, ⟨ho, hw, hsz⟩, hgo⟩ := hrun T hT X
  cases ho
  have hS' : va_S (jA G) s.heap t.heap (locs1 ++ LL) := by
    rw [h0] at hsz
    refine ⟨Nat.le_trans hS1.1 hsz, fun q h1 h2 => ?_, fun q hq => ?_⟩
    · have hlt : q < jL G := Nat.not_le.mp h2
      rw [hw.2.2 q hlt, ← hW1.2.2 q hlt]
      exact hS1.2.1 q h1 h2
    · rcases List.mem_append.mp hq with h | h
      · exact hS1.2.2 q h
      · exact hLL q h
  have F1 : jFx G (Y_W (n + 1) (q + 6)) p s m args meth c := F
  have W1 := (law_11b (n := n + 1) (q := q + 6) hG h149 hX hb hL hi h2 h3 h4).run (Q := Q) (below := below) (e := e) F1 hF hw hS' hl1 K
  have X'' : Stand p (jl G) e rm s m args below meth c T' (locs1 ++ LL) (149 + (n + 1)) (19098 + (q + 6)) := by
    rw [← Nat.add_assoc, ← Nat.add_assoc]
    exact X'
  obtain ⟨t2, a1, b1⟩ := W1 T' e1 X''
  exact ⟨t2, hgo t2 a1, b1⟩
end L11
