set_option maxRecDepth 20000
def Y_W (n q : Nat) : jY := (x, code, 7, ret, 45, 149 + n, 19098 + q)
theorem d_W_0 : decode code 0 = .ok (.new 8, 3) := by decide +kernel
theorem d_W_3 : decode code 3 = .ok (.dup, 1) := by decide +kernel
theorem d_W_4 : decode code 4 = .ok (.invokespecial 17, 3) := by decide +kernel
theorem d_W_7 : decode code 7 = .ok (.astore_n 1, 1) := by decide +kernel
theorem d_W_8 : decode code 8 = .ok (.new 18, 3) := by decide +kernel
theorem d_W_11 : decode code 11 = .ok (.dup, 1) := by decide +kernel
theorem d_W_12 : decode code 12 = .ok (.invokespecial 20, 3) := by decide +kernel
theorem d_W_15 : decode code 15 = .ok (.astore_n 2, 1) := by decide +kernel
theorem d_W_16 : decode code 16 = .ok (.iconst 1, 1) := by decide +kernel
theorem d_W_17 : decode code 17 = .ok (.newarray .long, 2) := by decide +kernel
theorem d_W_19 : decode code 19 = .ok (.astore_n 3, 1) := by decide +kernel
theorem wnew_W_8 : Cond.classLink "CitingLettersLaw" 8 "CitingLetters" ∈ jw ∧ Cond.instantiable "CitingLetters" 13 ∈ jw ∧ Cond.initialized "CitingLetters" ∈ jw := ⟨jt_1 27 rfl rfl, jt_1 28 rfl rfl, jt_1 1 rfl rfl⟩
theorem wnew_W_18 : Cond.classLink "CitingLettersLaw" 18 "CitingLettersModel" ∈ jw ∧ Cond.instantiable "CitingLettersModel" 71 ∈ jw ∧ Cond.initialized "CitingLettersModel" ∈ jw := ⟨jt_6 61 rfl rfl, jt_6 62 rfl rfl, jt_1 13 rfl rfl⟩
theorem lkc_W_17 : jLk "CitingLettersLaw" 17 ⟨"CitingLetters", "<init>", "()V"⟩ := Or.inl (jt_1 29 rfl rfl)
theorem lkc_W_20 : jLk "CitingLettersLaw" 20 ⟨"CitingLettersModel", "<init>", "()V"⟩ := Or.inl (jt_6 63 rfl rfl)
theorem jcaV {i : Nat} {v : Value} {ls : List (Nat × Value)} (hv : v.category = 1) (h : jca ls) : jca ((i, v) :: ls) := fun q hq => by
  rcases List.mem_cons.mp hq with rfl | hq
  · exact hv
  · exact h q hq
theorem law_start {G : jG} (ha : jAO G) {b : Nat} {Q : jQT} (h : JQ G (Y_W 0 0) 20 [(3, jr G 149), (2, jr G 109), (1, jr G 1), (0, .ref b)] [] MS_120 Q) : JCQ G (Y_W 0 0) 0 0 [(0, .ref b)] [] 0 0 FS_0 MS_0 Q := by
  refine JC.new (ci := 0) (N := 13) (C := "CitingLetters") (T := jTC) jtC d_W_0 rfl rfl jtC_ok iw_C wnew_W_8 (Nat.le_of_ble_eq_true rfl) ⟨rfl, rfl⟩ (by decide +kernel) (fun _ => rfl) (fun _ => rfl) ?_ ?_ ?_
  · show 0 - 0 + 1 ≤ 149 + 0
    omega
  · show 0 + 13 ≤ 19098 + 0
    omega
  refine JC.fold (pc' := 3) (k' := 1) (sl' := 13) (F' := FS_0) (M' := MS_0) rfl rfl rfl rfl rfl ?_
  refine JC.dup d_W_3 (jr_cat _ _) ?_
  refine JC.call Y_C_ini (As := []) (rest := [jr G 1]) (k1 := 108) (F1 := FS_79) (M1 := MS_77) d_W_4 mi_C_ini zi_C_ini lkc_W_17 ⟨(Nat.le_of_ble_eq_true rfl), ?_, ?_, rfl, (Nat.le_of_ble_eq_true rfl)⟩ (by decide) (cc_C_ini_1 ha) rfl (Nat.le_trans (jcR jcN) (Nat.le_of_ble_eq_true rfl)) ?_
  · show 1 - 0 + 107 ≤ 149 + 0
    omega
  · show 13 + 12388 ≤ 19098 + 0
    omega
  refine JC.fold (pc' := 7) (k' := 108) (sl' := 12401) (F' := FS_79) (M' := MS_77) rfl rfl rfl rfl rfl ?_
  refine JC.astore_n (lv := [(1, jr G 1), (0, .ref b)]) d_W_7 rfl (by decide) (by decide) rfl ?_
  refine JC.new (ci := 10) (N := 71) (C := "CitingLettersModel") (T := jTM) jtM d_W_8 rfl rfl jtM_ok iw_M wnew_W_18 (Nat.le_of_ble_eq_true rfl) ⟨rfl, rfl⟩ (by decide +kernel) (fun _ => rfl) (fun _ => rfl) ?_ ?_ ?_
  · show 108 - 0 + 1 ≤ 149 + 0
    omega
  · show 12401 + 71 ≤ 19098 + 0
    omega
  refine JC.fold (pc' := 11) (k' := 109) (sl' := 12472) (F' := FS_79) (M' := MS_77) rfl rfl rfl rfl rfl ?_
  refine JC.dup d_W_11 (jr_cat _ _) ?_
  refine JC.call Y_M_ini (As := []) (rest := [jr G 109]) (k1 := 148) (F1 := FS_118) (M1 := MS_120) d_W_12 mi_M_ini zi_M_ini lkc_W_20 ⟨(Nat.le_of_ble_eq_true rfl), ?_, ?_, rfl, (Nat.le_of_ble_eq_true rfl)⟩ (by decide) (cc_M_ini_1 ha) rfl (Nat.le_trans (jcR jcN) (Nat.le_of_ble_eq_true rfl)) ?_
  · show 109 - 0 + 39 ≤ 149 + 0
    omega
  · show 12472 + 6625 ≤ 19098 + 0
    omega
  refine JC.fold (pc' := 15) (k' := 148) (sl' := 19097) (F' := FS_118) (M' := MS_120) rfl rfl rfl rfl rfl ?_
  refine JC.astore_n (lv := [(2, jr G 109), (1, jr G 1), (0, .ref b)]) d_W_15 rfl (by decide) (by decide) ?_ ?_
  · exact jfil rfl (jcaR (jcaV rfl jcaN))
  refine JC.iconst (v := (1 : Int32)) d_W_16 (by decide) ?_
  refine JC.newl d_W_17 (jt_8 206 rfl rfl) (Nat.le_of_ble_eq_true rfl) ⟨rfl, by decide⟩ (fun _ => rfl) (by decide) (by decide) ?_ ?_ ?_
  · show 148 - 0 + 1 ≤ 149 + 0
    omega
  · show 19097 + 1 ≤ 19098 + 0
    omega
  refine JC.fold (pc' := 19) (k' := 149) (sl' := 19098) (F' := FS_118) (M' := MS_120) rfl rfl rfl rfl rfl ?_
  refine JC.astore_n (lv := [(3, jr G 149), (2, jr G 109), (1, jr G 1), (0, .ref b)]) d_W_19 rfl (by decide) (by decide) ?_ ?_
  · exact jfil rfl (jcaR (jcaR (jcaV rfl jcaN)))
  exact JC.toQ rfl rfl rfl h
