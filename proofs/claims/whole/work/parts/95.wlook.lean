/-! the law's look: the one long, the two handlers -/
set_option maxRecDepth 20000
theorem lg_cmp0 (z : Int64) : lg_cmp z z = 0 := by
  unfold lg_cmp
  rw [if_neg (fun h => Int64.lt_irrefl h), if_pos rfl]
section LL
variable {G : jG} {Y : jY} {pc : Nat} {ls : List (Nat × Value)} {st : List Value} {M : jMem} {Q : jQT}
theorem J.i2l {x : Int32} (hd : decode (jcc Y) pc = .ok (.i2l, 1)) (K : JQ G Y (pc + 1) ls (.long x.toInt64 :: st) M Q) : JQ G Y pc ls (.int x :: st) M Q := by
  intro p e s m args below meth c H locs la rm F hF hW hS hl
  exact lv_i2l F.1 F.2.1 hd rfl (K p e s m args below meth c H locs la rm F hF hW hS hl)
theorem J.lcmp0 {z : Int64} (hd : decode (jcc Y) pc = .ok (.lcmp, 1)) (K : JQ G Y (pc + 1) ls (.int 0 :: st) M Q) : JQ G Y pc ls (.long z :: .long z :: st) M Q := by
  intro p e s m args below meth c H locs la rm F hF hW hS hl
  refine W.lcmp F.1 F.2.1 hd ?_
  rw [lg_cmp0]
  exact K p e s m args below meth c H locs la rm F hF hW hS hl
theorem jent_149 {M : jMem} : jent G M 149 = .inl (jcA G 4, 1, .inr (.inl (fun i => (M 149 i).toInt64))) := by
  have ht : jtag 149 = 5 := by decide +kernel
  have hp : jpar 149 = 1 := by decide +kernel
  unfold jent
  rw [ht, hp]
  rfl
theorem vp_in01 : vp_in (0 : Int32) 1 := (law_vp (i := 0) (L := 1) (by omega) (by omega)).1
theorem J.lald149 (h149 : 149 ≤ jK G) (hd : decode (jcc Y) pc = .ok (.laload, 1)) (K : JQ G Y (pc + 1) ls (.long (M 149 0).toInt64 :: st) M Q) : JQ G Y pc ls (.int 0 :: jr G 149 :: st) M Q := by
  intro p e s m args below meth c H locs la rm F hF hW hS hl
  have he := jwl_at (M := M) (c := 149) (by omega) h149
  rw [jent_149] at he
  rw [jr_pos (by omega)]
  exact va_lald F.1 F.2.1 F.K hW.1 (149 - 1) 4 he rfl (i := 0) vp_in01 hd (K p e s m args below meth c H locs la rm F hF hW hS hl)
theorem J.last149 (h149 : 149 ≤ jK G) {x : Int32} (hd : decode (jcc Y) pc = .ok (.lastore, 1)) (K : JQ G Y (pc + 1) ls st (jup M 149 0 x) Q) : JQ G Y pc ls (.long x.toInt64 :: .int 0 :: jr G 149 :: st) M Q := by
  intro p e s m args below meth c H locs la rm F hF hW hS hl
  have he := jwl_at (M := M) (c := 149) (by omega) h149
  rw [jent_149] at he
  rw [jr_pos (by omega)]
  refine va_last F.1 F.2.1 F.K hW.1 (jwl_D F.gl) hS (149 - 1) 4 he rfl (i := 0) vp_in01 hd (fun H1 locs1 a1 a2 a3 => ?_)
  rw [jwl_set (M' := jup M 149 0 x) (c := 149) (by omega) ?_ (fun c' hc' => jent_ne (jup_ne hc'))] at a1
  · exact K p e s m args below meth c H1 locs1 la rm F hF (hW.upd F.2.2.2.2.2.2.2.2.1 hS a1 a3) a3 hl
  · rw [jent_149, jup_row]
    have hf : (fun i => (upd (M 149) 0 x i).toInt64) = vp_updL (fun i => (M 149 i).toInt64) (0 : Int32).toNatClampNeg x.toInt64 := by
      funext q
      have z : (0 : Int32).toNatClampNeg = 0 := by decide
      rw [z]
      unfold vp_updL upd
      by_cases hq : q = 0
      · rw [if_pos hq, if_pos hq]
      · rw [if_neg hq, if_neg hq]
    rw [hf]
end LL
abbrev yWL : MethodName := ⟨"CitingLettersLaw", "look", "(LCitingLetters;II[J)I"⟩
abbrev Y_WL (a b : Nat) : jY := (yWL, method_3_code, 5, some .int, 7, a, b)
abbrev hhWL : List (Nat × Nat × Nat × Nat) := [(0, 10, 13, 13), (0, 10, 17, 15)]
def wsWL : List Cond := Cond.codeWith yWL method_3_code 5 (some .int) hhWL :: jw
def mW (r : (Nat × Int32) × jMem) : jMem := if r.1.1 = 0 then jup r.2 149 0 r.1.2 else r.2
section WL
variable {G : jG} {v1 v2 : Int32} {m : jMem}
theorem c_W_look (hG : jFul G) (h149 : 149 ≤ jK G) (hx : jxE G) (hg : jGl G) {r : (Nat × Int32) × jMem} (hr : r = ((0, r.1.2), r.2) ∨ r = ((1, 0), r.2) ∨ r = ((2, 0), r.2)) (h : f_C_look v1 v2 m = some r) : Met (jl G) yWL wsWL (jrm 7 1 6) (jPc G [jr G 1, .int v1, .int v2, jr G 149] m) (jQc G (some (.int (Int32.ofNat r.1.1)), mW r)) 1 6 (jA G) := by
  have hA : jAv 0 [jr G 1, .int v1, .int v2, jr G 149] [(0, jr G 1), (1, .int v1), (2, .int v2), (3, jr G 149)] := jAvR (jAvI (jAvI (jAvR jAvN)))
  refine va_MetW (cc := method_3_code) (maxL := 5) (ret := some .int) (hh := hhWL) (by decide +kernel) rfl ?_
  intro p e s m' args below meth c s₁ B hml hv
  obtain ⟨rfl, hW, hal, hne⟩ := hv
  have hts := atoms_spec (ws := wsWL) B.pre
  have htab : c.exceptionTable.toList = tableOf hhWL := vx_table (x := yWL) B (hts _ List.mem_cons_self)
  have hown : s.vm.findClass "CitingLettersLaw" = some m'.cls := findClass_of_methodNamed B.named
  have hjw : ∀ w ∈ jw, w.before ([jr G 1, .int v1, .int v2, jr G 149] : List Value).toArray s = true := fun w hw => hts w (List.mem_cons_of_mem _ hw)
  have F : ∀ a b, jFx G (Y_WL a b) p s m' ([jr G 1, .int v1, .int v2, jr G 149] : List Value).toArray meth c := fun a b => ⟨B.exec, B.bytes, hml, hown, hjw, B.returns, B.notSynchronized, hal, hW.2.1, hg, hne⟩
  rw [lg_entry_eq]
  have hl := lv_entry [jr G 1, .int v1, .int v2, jr G 149] (n := 5) (by rw [hA.2]; exact Nat.le_of_ble_eq_true rfl)
  rw [hA.1] at hl
  have hS : va_S (jA G) s.heap s.heap [] := va_S.rf
  have hfit0 : jFit (Y_WL 0 0) (jrm 7 1 6) := ⟨Nat.le_refl _, Nat.zero_le _, Nat.zero_le _, Nat.le_refl _⟩
  have hfit1 : jFit (Y_WL 1 6) (jrm 7 1 6) := ⟨Nat.le_refl _, Nat.le_refl _, Nat.le_refl _, Nat.le_refl _⟩
  show W p (jl G) e (jrm 7 1 6) s m' _ below meth c s.heap [] 0 0 _ _
  have J0 : JQ G (Y_WL 0 0) 0 [(0, jr G 1), (1, .int v1), (2, .int v2), (3, jr G 149)] [] m (jAt G (Y_WL 0 0) 5 [(0, jr G 1), (1, .int v1), (2, .int v2), (3, jr G 149)] [.int v2, .int v1, jr G 1, .int 0, jr G 149] m) := by
    refine J.aload_n 3 d_WL_0 rfl rfl ?_
    refine J.iconst (v := 0) d_WL_1 (by decide) ?_
    refine J.aload_n 0 d_WL_2 rfl rfl ?_
    refine J.iload_n 1 d_WL_3 rfl rfl ?_
    exact J.iload_n 2 d_WL_4 rfl rfl jAt_K
  refine J0.run (F 0 0) hfit0 hW hS hl (fun H1 locs1 la1 hW1 hS1 hl1 => ?_)
  have hM := c_C_look hG hx hg hr h
  have hj : jr G 1 = .ref (jad G 1) := jr_pos (by omega)
  rw [show ([jr G 1, .int v1, .int v2] : List Value) = [.ref (jad G 1), .int v1, .int v2] from by rw [hj]] at hM
  have he := jwl_at (G := G) (M := m) (c := 1) (by omega) (by omega)
  rw [jent_obj (by decide +kernel : jtag 1 = 0)] at he
  have hT : jcl[jpar 1]? = some ("CitingLetters", jTC, 13) := rfl
  have hp : PreV s H1 "CitingLetters" (jad G 1) (jPc G (.ref (jad G 1) :: [.int v1, .int v2]) m) [.int v1, .int v2] := ⟨jPc_blind, va_recv (F 0 0).K hW1.1 hT he, fun U hU hWm => ⟨rfl, by rw [hU]; exact hW1, (F 0 0).2.2.2.2.2.2.2.1.trans hWm.alike, (F 0 0).stt.warm hWm⟩⟩
  have hrun := vx_runV (As := [.int v1, .int v2]) (rest := [.int 0, jr G 149]) (g := F0 m' 5 la1 [.int v2, .int v1, jr G 1, .int 0, jr G 149]) (mc := 1) (ms := 6) (cells := 0) (slots := 0) (locs := locs1) (below := below) (meth := meth) (e := e) (R := jrm 7 1 6) (H := H1) (cc := method_3_code) (nL := 5) ⟨B.exec, B.bytes, hml, hown, hjw⟩ hM
    ⟨callB_of 2 hjw (jws_GI (Y := Y_C_lk 1 6) mi_C_look.1) rfl rfl rfl (hjw _ mi_C_look.2.1) (hjw _ (jt_5 214 rfl rfl)) mi_C_look.2.2.1 ⟨by decide, by decide⟩, hjw _ mv_C_look.1, hjw _ mv_C_look.2⟩ hp rfl rfl hl1.1 (by rw [hj]; rfl) (lv_room (Nat.le_trans (jcI (jcR jcN)) (Nat.le_of_ble_eq_true rfl))) d_WL_5 ⟨Nat.le_refl _, Nat.le_refl _⟩
  have keep : ∀ (st₀ t : State) (L : List Loc), st₀.heap = H1 → jWd G r.2 t.heap → st₀.heap.size ≤ t.heap.size → (∀ z ∈ L, jA G z.base) → va_S (jA G) s.heap t.heap (locs1 ++ L) := fun st₀ t L h0 hw hz hL => by
    rw [h0] at hz
    refine ⟨Nat.le_trans hS1.1 hz, fun q h1 h2 => ?_, fun q hq => ?_⟩
    · have hlt : q < jL G := Nat.not_le.mp h2
      rw [hw.2.2 q hlt, ← hW1.2.2 q hlt]
      exact hS1.2.1 q h1 h2
    · rcases List.mem_append.mp hq with h | h
      · exact hS1.2.2 q h
      · exact hL q h
  intro T hT' X
  rcases hrun T hT' X with ⟨v, st₀, t, T', L, h0, X', hL, e1, e2, ⟨hr0, ho, hw, hsz⟩, hgo⟩ | ⟨q, st₀, t, T', L, E, ce, h0, X', hL, e1, e2, ⟨hE1, hE2, hw, hsz⟩, hce, hcv, hcl, hst⟩
  · cases ho
    have K : JQ G (Y_WL 1 6) 8 [(0, jr G 1), (1, .int v1), (2, .int v2), (3, jr G 149)] [.int r.1.2, .int 0, jr G 149] r.2 (jQof G (Y_WL 1 6) (some (.int (Int32.ofNat r.1.1)), mW r)) := by
      refine J.i2l d_WL_8 ?_
      refine J.last149 h149 d_WL_9 ?_
      refine J.goto 21 d_WL_10 rfl ?_
      refine J.iconst (v := 0) d_WL_21 (by decide) ?_
      refine J.iret d_WL_22 rfl (vp_nar_int _) ?_
      unfold mW
      rw [hr0, if_pos rfl]
      rfl
    obtain ⟨t2, a1, b1⟩ := K p e s m' _ below meth c t.heap (locs1 ++ L) la1 (jrm 7 1 6) (F 1 6) hfit1 hw (keep st₀ t L h0 hw hsz hL) hl1 T' e1 X'
    exact ⟨t2, hgo t2 a1, b1⟩
  · have hv := (F 0 0).2.2.2.2.2.2.2.1
    have hce' : T'.heap[q]? = some ce := by rw [e1]; exact hce
    have hw' : jWd G r.2 T'.heap := by rw [e1]; exact hw
    have hS' : va_S (jA G) s.heap T'.heap (locs1 ++ L) := by rw [e1]; exact keep st₀ t L h0 hw hsz hL
    rcases hE1 with hE1 | hE1
    · rw [hE1] at hE2
      subst hE2
      have kk : vx_W p (jl G) e (jrm 7 1 6) s m' ([jr G 1, .int v1, .int v2, jr G 149] : List Value).toArray below meth c T'.heap (locs1 ++ L) (0 + 1) (0 + 6) (MQ below (jQc G (some (.int (Int32.ofNat r.1.1)), mW r)) ([jr G 1, .int v1, .int v2, jr G 149] : List Value).toArray s 1 6 (jA G)) (F0 m' 5 la1 [.int 0, jr G 149]) q := by
        refine vx_catch (own := "CitingLettersLaw") (name := xIO) (E := xIO) hown [] ⟨0, 10, 13, 13⟩ [⟨0, 10, 17, 15⟩] htab (fun z hz => nomatch hz) (by decide) (by decide) (hjw _ (jt_5 212 rfl rfl)) (va_Nw.use rfl (nwC_moved hv hx.2.2.2.1.1)) hce' hcv hcl ?_
        refine lv_astore B.exec B.bytes d_WL_13 hl1 (Nat.le_of_ble_eq_true rfl) rfl (fun la2 hl2 => ?_)
        have K : JQ G (Y_WL 1 6) 15 ((4, Value.ref q) :: [(0, jr G 1), (1, Value.int v1), (2, Value.int v2), (3, jr G 149)].filter (fun q => !(q.1 == 4) && !(q.1 + 1 == 4 && q.2.category == 2))) [] r.2 (jQof G (Y_WL 1 6) (some (.int (Int32.ofNat r.1.1)), mW r)) := by
          refine J.iconst (v := 1) d_WL_15 (by decide) ?_
          refine J.iret d_WL_16 rfl (vp_nar_int _) ?_
          unfold mW
          rw [hE1, if_neg (by decide)]
          rfl
        exact K p e s m' _ below meth c T'.heap (locs1 ++ L) la2 (jrm 7 1 6) (F 1 6) hfit1 hw' hS' hl2
      obtain ⟨t2, a1, b1⟩ := kk T' rfl X'
      exact ⟨t2, hst.trans a1, b1⟩
    · rw [hE1] at hE2
      subst hE2
      have kk : vx_W p (jl G) e (jrm 7 1 6) s m' ([jr G 1, .int v1, .int v2, jr G 149] : List Value).toArray below meth c T'.heap (locs1 ++ L) (0 + 1) (0 + 6) (MQ below (jQc G (some (.int (Int32.ofNat r.1.1)), mW r)) ([jr G 1, .int v1, .int v2, jr G 149] : List Value).toArray s 1 6 (jA G)) (F0 m' 5 la1 [.int 0, jr G 149]) q := by
        refine vx_catch (own := "CitingLettersLaw") (name := xNS) (E := xNS) hown [⟨0, 10, 13, 13⟩] ⟨0, 10, 17, 15⟩ [] htab (fun z hz => ?_) (by decide) (by decide) (hjw _ (jt_5 213 rfl rfl)) (va_Nw.use rfl (nwC_moved hv hx.2.2.2.1.2.1)) hce' hcv hcl ?_
        · cases List.mem_singleton.mp hz
          exact Or.inr ⟨by decide, xIO, hjw _ (jt_5 212 rfl rfl), va_Nc.moved hv hx.2.2.2.2⟩
        refine lv_astore B.exec B.bytes d_WL_17 hl1 (Nat.le_of_ble_eq_true rfl) rfl (fun la2 hl2 => ?_)
        have K : JQ G (Y_WL 1 6) 19 ((4, Value.ref q) :: [(0, jr G 1), (1, Value.int v1), (2, Value.int v2), (3, jr G 149)].filter (fun q => !(q.1 == 4) && !(q.1 + 1 == 4 && q.2.category == 2))) [] r.2 (jQof G (Y_WL 1 6) (some (.int (Int32.ofNat r.1.1)), mW r)) := by
          refine J.iconst (v := 2) d_WL_19 (by decide) ?_
          refine J.iret d_WL_20 rfl (vp_nar_int _) ?_
          unfold mW
          rw [hE1, if_neg (by decide)]
          rfl
        exact K p e s m' _ below meth c T'.heap (locs1 ++ L) la2 (jrm 7 1 6) (F 1 6) hfit1 hw' hS' hl2
      obtain ⟨t2, a1, b1⟩ := kk T' rfl X'
      exact ⟨t2, hst.trans a1, b1⟩
end WL
