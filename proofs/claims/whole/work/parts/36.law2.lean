theorem d_W_20 : decode code 20 = .ok (.iconst 0, 1) := by decide +kernel
theorem d_W_21 : decode code 21 = .ok (.istore 4, 2) := by decide +kernel
theorem d_W_23 : decode code 23 = .ok (.iload 4, 2) := by decide +kernel
theorem d_W_25 : decode code 25 = .ok (.aload_n 0, 1) := by decide +kernel
theorem d_W_26 : decode code 26 = .ok (.arraylength, 1) := by decide +kernel
theorem d_W_27 : decode code 27 = .ok (.bipush 6, 2) := by decide +kernel
theorem d_W_29 : decode code 29 = .ok (.isub, 1) := by decide +kernel
theorem d_W_30 : decode code 30 = .ok (.if_icmp .gt 1703, 3) := by decide +kernel
theorem d_W_33 : decode code 33 = .ok (.aload_n 0, 1) := by decide +kernel
theorem d_W_34 : decode code 34 = .ok (.iload 4, 2) := by decide +kernel
theorem d_W_36 : decode code 36 = .ok (.iaload, 1) := by decide +kernel
theorem d_W_37 : decode code 37 = .ok (.bipush 63, 2) := by decide +kernel
theorem d_W_39 : decode code 39 = .ok (.iand, 1) := by decide +kernel
theorem d_W_1727 : decode code 1727 = .ok (.iinc 4 6, 3) := by decide +kernel
theorem d_W_1730 : decode code 1730 = .ok (.goto (-1707), 3) := by decide +kernel
theorem d_W_1733 : decode code 1733 = .ok (.iconst 1, 1) := by decide +kernel
theorem d_W_1734 : decode code 1734 = .ok (.ireturn, 1) := by decide +kernel
theorem law_lt {L i : Nat} (hL : L ≤ 3072) (hi : i ≤ 3078) : (Int32.ofNat L - 6 < Int32.ofNat i) ↔ L < i + 6 := by
  have e1 : (Int32.ofNat L).toInt = L := Int32.toInt_ofNat_of_lt (by omega)
  have e2 : (Int32.ofNat i).toInt = i := Int32.toInt_ofNat_of_lt (by omega)
  have e3 : (Int32.ofNat L - 6).toInt = (L : Int) - 6 := by
    rw [Int32.toInt_sub, e1]
    show ((L : Int) - 6).bmod (2 ^ 32) = _
    exact Int.bmod_eq_of_le (by omega) (by omega)
  rw [Int32.lt_iff_toInt_lt, e3, e2]
  omega
section LWB
variable {G : jG} {n q b L i : Nat} {xs : Nat → Int32} {M : jMem} {Q : jQT}
theorem law_top (hX : va_X b L xs (js0 G) (js0 G).heap) (hb : b < jL G) (hL : L ≤ 3072) (hi : i ≤ 3078) (Kin : i + 6 ≤ L → JQ G (Y_W n q) 40 (lawls G b i) [.int (xs i &&& 63)] M Q) (Kout : L < i + 6 → JQ G (Y_W n q) 1733 (lawls G b i) [] M Q) : JQ G (Y_W n q) 23 (lawls G b i) [] M Q := by
  refine J.iload 0 d_W_23 rfl ?_
  refine J.aloadb 4 d_W_25 rfl rfl ?_
  refine J.slen hX hb d_W_26 ?_
  refine J.bipush (v := (6 : Int32)) d_W_27 (by decide) ?_
  refine J.isub d_W_29 ?_
  refine J.icmp_gt 1733 d_W_30 rfl (fun c => Kout ((law_lt hL hi).mp c)) (fun c => ?_)
  have c : i + 6 ≤ L := Nat.not_lt.mp fun z => c ((law_lt hL hi).mpr z)
  obtain ⟨h1, h2⟩ := law_vp (i := i) (L := L) (by omega) hL
  refine J.aloadb 4 d_W_33 rfl rfl ?_
  refine J.iload 0 d_W_34 rfl ?_
  refine J.sld hX hb h1 d_W_36 ?_
  rw [h2]
  refine J.bipush (v := (63 : Int32)) d_W_37 (by decide) ?_
  exact J.iand d_W_39 (Kin c)
theorem law_next (K : JQ G (Y_W n q) 23 (lawls G b (i + 6)) [] M Q) : JQ G (Y_W n q) 1727 (lawls G b i) [] M Q := by
  refine J.iinc 0 (v := (6 : Int32)) (lv := lawls G b (i + 6)) d_W_1727 rfl (by decide) (Nat.le_of_ble_eq_true rfl) ?_ ?_
  · refine jfil ?_ (jcaI (jcaR (jcaR (jcaR (jcaV rfl jcaN)))))
    rw [show lawls G b (i + 6) = (4, .int (Int32.ofNat i + 6)) :: [(3, jr G 149), (2, jr G 109), (1, jr G 1), (0, .ref b)] by unfold lawls; rw [Int32.ofNat_add]; rfl]
    rfl
  · exact J.goto 23 d_W_1730 rfl K
theorem law_zero (K : JQ G (Y_W n q) 23 (lawls G b 0) [] M Q) : JQ G (Y_W n q) 20 [(3, jr G 149), (2, jr G 109), (1, jr G 1), (0, .ref b)] [] M Q := by
  refine J.iconst (v := (0 : Int32)) d_W_20 (by decide) ?_
  refine J.istore (lv := lawls G b 0) d_W_21 (Nat.le_of_ble_eq_true rfl) ?_ K
  exact jfil rfl (jcaR (jcaR (jcaR (jcaV rfl jcaN))))
end LWB
