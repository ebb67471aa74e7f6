theorem jCt.ov {G : jG} {Y : jY} {M : jMem} {R : jRes} {av : List Value} {ls : List (Nat × Value)} {n : Nat} (hm : jMi (jy Y) (jcc Y) (jnL Y) (jret Y) n) (ha : jAv 0 av ls) (hlen : ls.length ≤ jnL Y) (h : J G Y 0 ls [] M R) (hz : jcs Y = 0 ∧ jss Y = 0) : jCt G Y av M R :=
  jCt.of2 (Q := jQof G Y R) hm ha hlen h hz
theorem jst_ok : ∀ i, i < 34 → jstN.getD i 0 = (jstB.getD i []).length ∧ jstN.getD i 0 < 2 ^ 20 ∧ ∀ b ∈ jstB.getD i [], ((b &&& 255).toUInt32 % 65536).toInt32 = b ∧ narrow .char (.int b) = .int b := by decide +kernel
theorem jgetD_mem {l : List Int32} {k : Nat} (h : k < l.length) : l.getD k 0 ∈ l := by
  rw [List.getD_eq_getElem?_getD, List.getElem?_eq_getElem h]
  exact List.getElem_mem h
theorem jsc_ok {w : Nat} {i x : Int32} (hw : jsk w) (hi : vp_in i (jstN.getD (w - 2001) 0)) (hx : jsc w i = x) : ((x &&& 255).toUInt32 % 65536).toInt32 = x ∧ narrow .char (.int x) = .int x := by
  obtain ⟨h1, h2, h3⟩ := jst_ok (w - 2001) (by have := hw.1; have := hw.2; omega)
  rw [← hx]
  exact h3 _ (jgetD_mem (by rw [← h1]; exact Nat.not_le.mp fun q => hi (Or.inr q)))
section JWK
variable {G : jG} {Y : jY} {pc : Nat} {ls : List (Nat × Value)} {st : List Value} {M : jMem} {Q : jQT} {R : jRes}
theorem J.cT (Z : jY) {index w : Nat} {As rest : List Value} {r : Int32} {M1 : jMem} (hd : decode (jcc Y) pc = .ok (.invokevirtual index, 3)) (hm : jMi (jy Z) (jcc Z) (jnL Z) (jret Z) As.length) (hv : jMv (jy Z)) (hlk : Cond.methodLink (jy Y).cls index (jy Z) ∈ jw) (hz : jcs Z = 0 ∧ jss Z = 0 ∧ jd Z + 1 ≤ jd Y) (hcl : (jy Z).cls = "java/lang/String")
    (hw : jsk w) (hct : jCt G Z (jr G w :: As) M (jri (r, M1))) (hst : st = As.reverse ++ jr G w :: rest) (hrs : (rest.map fun v => v.category).sum ≤ 8) (K : JQ G Y (pc + 3) ls (.int r :: rest) M1 Q) : JQ G Y pc ls st M Q := J.callStr Z hd hm hv hlk hz hcl hw hct hst hrs K
theorem J.cO (Z : jY) {index n : Nat} {rest : List Value} {r : Int32} {M1 : jMem} (hd : decode (jcc Y) pc = .ok (.invokevirtual index, 3)) (hy : jy Z = ⟨"java/lang/Enum", "ordinal", "()I"⟩) (hm : jMi (jy Z) (jcc Z) (jnL Z) (jret Z) 0) (hwd : Cond.methodLink (jy Y).cls index ⟨"CitingLetters$Token", "ordinal", "()I"⟩ ∈ jw ∧ Cond.sameMethod "CitingLetters$Token" "java/lang/Enum" "ordinal" "()I" ∈ jw ∧ Cond.selects "CitingLetters$Token" ⟨"CitingLetters$Token", "ordinal", "()I"⟩ ⟨"java/lang/Enum", "ordinal", "()I"⟩ ∈ jw ∧ Cond.instanceMethod ⟨"java/lang/Enum", "ordinal", "()I"⟩ ∈ jw) (hz : jcs Z = 0 ∧ jss Z = 0 ∧ jd Z + 1 ≤ jd Y)
    (hn : jtk n) (hct : jCt G Z [jr G n] M (jri (r, M1))) (hst : st = jr G n :: rest) (hrs : (rest.map fun v => v.category).sum ≤ 8) (K : JQ G Y (pc + 3) ls (.int r :: rest) M1 Q) : JQ G Y pc ls st M Q := J.callOrd Z hd hy hm hwd hz hn hct hst hrs K
end JWK
theorem c_JE_ordinal {G : jG} {m : jMem} {n : Nat} {x : Int32} (hn : jtk n) (hx : jtkO n = x) : jCt G Y_JE_ordinal [jr G n] m (jri (x, m)) := by
  refine jCt.ov (ls := [(0, jr G n)]) mi_JE_ordinal (jAvR jAvN) (Nat.le_of_ble_eq_true rfl) ?_ ⟨rfl, rfl⟩
  refine J.aload_n 0 d_JE_ordinal_0 rfl rfl ?_
  refine J.gkO d_JE_ordinal_1 hn wf_ordinal hx ?_
  exact J.iret d_JE_ordinal_4 rfl rfl rfl
theorem c_JS_coder {G : jG} {m : jMem} {w : Nat} (hw : jsk w) : jCt G Y_JS_coder [jr G w] m (jri (0, m)) := by
  refine jCt.ov (ls := [(0, jr G w)]) mi_JS_coder (jAvR jAvN) (Nat.le_of_ble_eq_true rfl) ?_ ⟨rfl, rfl⟩
  refine J.gcs d_JS_coder_0 wf_compact ?_
  refine J.if_eq 13 d_JS_coder_3 rfl (fun c => absurd c (by decide)) (fun _ => ?_)
  refine J.aload_n 0 d_JS_coder_6 rfl rfl ?_
  refine J.scod d_JS_coder_7 hw wf_coder ?_
  refine J.goto 14 d_JS_coder_10 rfl ?_
  exact J.iret d_JS_coder_14 rfl rfl rfl
theorem c_JS_isLatin1 {G : jG} {m : jMem} {w : Nat} (hw : jsk w) : jCt G Y_JS_isLatin1 [jr G w] m (jri (1, m)) := by
  refine jCt.ov (ls := [(0, jr G w)]) mi_JS_isLatin1 (jAvR jAvN) (Nat.le_of_ble_eq_true rfl) ?_ ⟨rfl, rfl⟩
  refine J.gcs d_JS_isLatin1_0 wf_compact ?_
  refine J.if_eq 17 d_JS_isLatin1_3 rfl (fun c => absurd c (by decide)) (fun _ => ?_)
  refine J.aload_n 0 d_JS_isLatin1_6 rfl rfl ?_
  refine J.scod d_JS_isLatin1_7 hw wf_coder ?_
  refine J.if_ne 17 d_JS_isLatin1_10 rfl (fun c => absurd rfl c) (fun _ => ?_)
  refine J.iconst (v := (1 : Int32)) d_JS_isLatin1_13 (by decide) ?_
  refine J.goto 18 d_JS_isLatin1_14 rfl ?_
  exact J.iret d_JS_isLatin1_18 rfl rfl rfl
theorem c_JS_length {G : jG} {m : jMem} {w : Nat} {x : Int32} (hw : jsk w) (hx : jsl w = x) : jCt G Y_JS_length [jr G w] m (jri (x, m)) := by
  refine jCt.ov (ls := [(0, jr G w)]) mi_JS_length (jAvR jAvN) (Nat.le_of_ble_eq_true rfl) ?_ ⟨rfl, rfl⟩
  refine J.aload_n 0 d_JS_length_0 rfl rfl ?_
  refine J.sval d_JS_length_1 hw wf_value ?_
  refine J.blen d_JS_length_4 hw ?_
  refine J.aload_n 0 d_JS_length_5 rfl rfl ?_
  refine J.cT Y_JS_coder (As := []) (rest := [.int (jsl w)]) d_JS_length_6 mi_JS_coder mv_JS_coder wl_JS_coder ⟨rfl, rfl, Nat.le_of_ble_eq_true rfl⟩ rfl hw (c_JS_coder hw) rfl (Nat.le_trans (jcI jcN) (Nat.le_of_ble_eq_true rfl)) ?_
  refine J.ishr d_JS_length_9 ?_
  refine J.iret d_JS_length_10 rfl rfl ?_
  rw [← hx]
  obtain ⟨-, h2, -⟩ := jst_ok (w - 2001) (by have := hw.1; have := hw.2; omega)
  unfold jsl
  rw [show Int32.ofNat (jstN.getD (w - 2001) 0) >>> ((0 : Int32) &&& 31) = Int32.ofNat (jstN.getD (w - 2001) 0) from sc_shr0 (by omega)]
theorem c_JP_checkIndex {G : jG} {m : jMem} {i : Int32} {n : Nat} {v : Value} (hv : v.category = 1) (hn : n < 2 ^ 31) (hi : vp_in i n) : jCt G Y_JP_checkIndex [.int i, .int (Int32.ofNat n), v] m (jri (i, m)) := by
  refine jCt.ov (ls := [(0, .int i), (1, .int (Int32.ofNat n)), (2, v)]) mi_JP_checkIndex (jAvI (jAvI (jAvV hv jAvN))) (Nat.le_of_ble_eq_true rfl) ?_ ⟨rfl, rfl⟩
  obtain ⟨j, hj, rfl⟩ := vp_in_of hi hn
  refine J.iload_n 0 d_JP_checkIndex_0 rfl rfl ?_
  refine J.if_lt 9 d_JP_checkIndex_1 rfl (fun c => absurd c (nI_pos (by omega))) (fun _ => ?_)
  refine J.iload_n 0 d_JP_checkIndex_4 rfl rfl ?_
  refine J.iload_n 1 d_JP_checkIndex_5 rfl rfl ?_
  refine J.icmp_lt 16 d_JP_checkIndex_6 rfl (fun _ => ?_) (fun c => absurd (nI_lt hj hn) c)
  refine J.iload_n 0 d_JP_checkIndex_16 rfl rfl ?_
  exact J.iret d_JP_checkIndex_17 rfl rfl rfl
theorem c_JS_checkIndex {G : jG} {m : jMem} {i : Int32} {n : Nat} (hn : n < 2 ^ 31) (hi : vp_in i n) : jCt G Y_JS_checkIndex [.int i, .int (Int32.ofNat n)] m (jrv ((), m)) := by
  refine jCt.ov (ls := [(0, .int i), (1, .int (Int32.ofNat n))]) mi_JS_checkIndex (jAvI (jAvI jAvN)) (Nat.le_of_ble_eq_true rfl) ?_ ⟨rfl, rfl⟩
  refine J.iload_n 0 d_JS_checkIndex_0 rfl rfl ?_
  refine J.iload_n 1 d_JS_checkIndex_1 rfl rfl ?_
  refine J.gsq d_JS_checkIndex_2 wf_sioobe (fun v hv => ?_)
  refine J.cSi Y_JP_checkIndex (As := [.int i, .int (Int32.ofNat n), v]) (rest := []) d_JS_checkIndex_5 mi_JP_checkIndex ms_JP_checkIndex (Or.inl wl_JP_checkIndex) ⟨rfl, rfl, Nat.le_of_ble_eq_true rfl⟩ (c_JP_checkIndex hv hn hi) rfl (Nat.le_trans jcN (Nat.le_of_ble_eq_true rfl)) ?_
  refine J.pop d_JS_checkIndex_8 rfl ?_
  exact J.vret d_JS_checkIndex_9 rfl rfl
section JWK2
variable {G : jG} {Y : jY} {pc : Nat} {ls : List (Nat × Value)} {st : List Value} {M : jMem} {Q : jQT} {R : jRes}
theorem J.cSv (Z : jY) {index : Nat} {As rest : List Value} {r : Unit} {M1 : jMem} (hd : decode (jcc Y) pc = .ok (.invokestatic index, 3)) (hm : jMi (jy Z) (jcc Z) (jnL Z) (jret Z) As.length) (hv : jMs (jy Z)) (hlk : jLk (jy Y).cls index (jy Z)) (hz : jcs Z = 0 ∧ jss Z = 0 ∧ jd Z + 1 ≤ jd Y)
    (hct : jCt G Z As M (jrv (r, M1))) (hst : st = As.reverse ++ rest) (hrs : (rest.map fun v => v.category).sum ≤ 8) (K : JQ G Y (pc + 3) ls rest M1 Q) : JQ G Y pc ls st M Q := J.callS Z hd hm hv hlk hz hct hst hrs K
end JWK2
theorem c_JL_charAt {G : jG} {m : jMem} {w : Nat} {i x : Int32} (hw : jsk w) (hi : vp_in i (jstN.getD (w - 2001) 0)) (hx : jsc w i = x) : jCt G Y_JL_charAt [jr G (w + 1000), .int i] m (jri (x, m)) := by
  obtain ⟨h1, h2, -⟩ := jst_ok (w - 2001) (by have := hw.1; have := hw.2; omega)
  obtain ⟨e1, e2⟩ := jsc_ok hw hi hx
  refine jCt.ov (ls := [(0, jr G (w + 1000)), (1, .int i)]) mi_JL_charAt (jAvR (jAvI jAvN)) (Nat.le_of_ble_eq_true rfl) ?_ ⟨rfl, rfl⟩
  refine J.iload_n 1 d_JL_charAt_0 rfl rfl ?_
  refine J.aload_n 0 d_JL_charAt_1 rfl rfl ?_
  refine J.blen d_JL_charAt_2 hw ?_
  refine J.cSv Y_JS_checkIndex (As := [.int i, .int (jsl w)]) (rest := []) d_JL_charAt_3 mi_JS_checkIndex ms_JS_checkIndex (Or.inl wl_JS_checkIndex) ⟨rfl, rfl, Nat.le_of_ble_eq_true rfl⟩ (c_JS_checkIndex (by omega) hi) rfl (Nat.le_trans jcN (Nat.le_of_ble_eq_true rfl)) ?_
  refine J.aload_n 0 d_JL_charAt_6 rfl rfl ?_
  refine J.iload_n 1 d_JL_charAt_7 rfl rfl ?_
  refine J.bald d_JL_charAt_8 hw hi ?_
  rw [hx]
  refine J.sipush (v := (255 : Int32)) d_JL_charAt_9 (by decide) ?_
  refine J.iand d_JL_charAt_12 ?_
  refine J.i2c d_JL_charAt_13 e1 ?_
  exact J.iret d_JL_charAt_14 rfl e2 rfl
theorem c_JS_charAt {G : jG} {m : jMem} {w : Nat} {i x : Int32} (g : jsk w ∧ vp_in i (jstN.getD (w - 2001) 0)) (hx : jsc w i = x) : jCt G Y_JS_charAt [jr G w, .int i] m (jri (x, m)) := by
  obtain ⟨hw, hi⟩ := g
  obtain ⟨e1, e2⟩ := jsc_ok hw hi hx
  refine jCt.ov (ls := [(0, jr G w), (1, .int i)]) mi_JS_charAt (jAvR (jAvI jAvN)) (Nat.le_of_ble_eq_true rfl) ?_ ⟨rfl, rfl⟩
  refine J.aload_n 0 d_JS_charAt_0 rfl rfl ?_
  refine J.cT Y_JS_isLatin1 (As := []) (rest := []) d_JS_charAt_1 mi_JS_isLatin1 mv_JS_isLatin1 wl_JS_isLatin1 ⟨rfl, rfl, Nat.le_of_ble_eq_true rfl⟩ rfl hw (c_JS_isLatin1 hw) rfl (Nat.le_trans jcN (Nat.le_of_ble_eq_true rfl)) ?_
  refine J.if_eq 16 d_JS_charAt_4 rfl (fun c => absurd c (by decide)) (fun _ => ?_)
  refine J.aload_n 0 d_JS_charAt_7 rfl rfl ?_
  refine J.sval d_JS_charAt_8 hw wf_value ?_
  refine J.iload_n 1 d_JS_charAt_11 rfl rfl ?_
  refine J.cSi Y_JL_charAt (As := [jr G (w + 1000), .int i]) (rest := []) d_JS_charAt_12 mi_JL_charAt ms_JL_charAt (Or.inl wl_JL_charAt) ⟨rfl, rfl, Nat.le_of_ble_eq_true rfl⟩ (c_JL_charAt hw hi hx) rfl (Nat.le_trans jcN (Nat.le_of_ble_eq_true rfl)) ?_
  exact J.iret d_JS_charAt_15 rfl e2 rfl
