/-! the law's loop: a round of it, whatever the script has there but a look -/
set_option maxRecDepth 20000
theorem d_W_40 : decode code 40 = .ok (.tableswitch 1687 0 39 #[176, 249, 274, 299, 348, 421, 458, 483, 532, 581, 606, 643, 711, 748, 785, 822, 871, 896, 933, 982, 1007, 1056, 1081, 1106, 1143, 1168, 1193, 1230, 1267, 1292, 1317, 1354, 1403, 1440, 1477, 1502, 1551, 1600, 1625, 1662], 176) := by decide +kernel
def Lst (G : jG) (b i : Nat) (M : jMem) (x : Int32) : Prop := ∃ (N C : Nat) (M' : jMem), Rel N C M' ∧ ∀ n q : Nat, JQ G (Y_W n q) 40 (lawls G b i) [.int x] M (jAt G (Y_W n q) 1727 (lawls G b i) [] M')
section LSP
variable {G : jG} {b L i N C : Nat} {xs : Nat → Int32} {M : jMem}
theorem ls_0 (hG : jFul G) (hX : va_X b L xs (js0 G) (js0 G).heap) (hb : b < jL G) (hL : L ≤ 3072) (hi : i + 6 ≤ L) (r : Rel N C M) : Lst G b i M (nI 0) := by
  obtain ⟨v, M1, M2, N2, C2, e1, e2, r2⟩ := o_feed r (xs (i + 1)) (xs (i + 2)) (xs (i + 3)) (xs (i + 4)) (xs (i + 5))
  exact ⟨_, _, M2, r2, fun n q => J.tsIn 216 d_W_40 (v := nI 0) rfl (by decide) (by decide) rfl (by decide) (law_0 hG hX hb hL hi e1 e2 jAt_K)⟩
theorem ls_1 (hG : jFul G) (hX : va_X b L xs (js0 G) (js0 G).heap) (hb : b < jL G) (hL : L ≤ 3072) (hi : i + 6 ≤ L) (r : Rel N C M) : Lst G b i M (nI 1) := by
  obtain ⟨v, M1, M2, N2, C2, e1, e2, r2⟩ := o_text r (xs (i + 1))
  exact ⟨_, _, M2, r2, fun n q => J.tsIn 289 d_W_40 (v := nI 1) rfl (by decide) (by decide) rfl (by decide) (law_1 hG hX hb hL hi e1 e2 jAt_K)⟩
theorem ls_2 (hG : jFul G) (hX : va_X b L xs (js0 G) (js0 G).heap) (hb : b < jL G) (hL : L ≤ 3072) (hi : i + 6 ≤ L) (r : Rel N C M) : Lst G b i M (nI 2) := by
  obtain ⟨v, M1, M2, e1, e2, r2⟩ := (q_fault r (xs (i + 1))).rel fr_C_fault fr_M_fault rfl rfl r
  exact ⟨_, _, M2, r2, fun n q => J.tsIn 314 d_W_40 (v := nI 2) rfl (by decide) (by decide) rfl (by decide) (law_2 hG hX hb hL hi e1 e2 jAt_K)⟩
theorem ls_3 (hG : jFul G) (hX : va_X b L xs (js0 G) (js0 G).heap) (hb : b < jL G) (hL : L ≤ 3072) (hi : i + 6 ≤ L) (r : Rel N C M) : Lst G b i M (nI 3) := by
  obtain ⟨v, M1, M2, N2, C2, e1, e2, r2⟩ := o_way r (xs (i + 1)) (xs (i + 2)) (xs (i + 3))
  exact ⟨_, _, M2, r2, fun n q => J.tsIn 339 d_W_40 (v := nI 3) rfl (by decide) (by decide) rfl (by decide) (law_3 hG hX hb hL hi e1 e2 jAt_K)⟩
theorem ls_4 (hG : jFul G) (hX : va_X b L xs (js0 G) (js0 G).heap) (hb : b < jL G) (hL : L ≤ 3072) (hi : i + 6 ≤ L) (r : Rel N C M) : Lst G b i M (nI 4) := by
  obtain ⟨v, M1, M2, N2, C2, e1, e2, r2⟩ := o_write r (xs (i + 1)) (xs (i + 2)) (xs (i + 3)) (xs (i + 4)) (xs (i + 5))
  exact ⟨_, _, M2, r2, fun n q => J.tsIn 388 d_W_40 (v := nI 4) rfl (by decide) (by decide) rfl (by decide) (law_4 hG hX hb hL hi e1 e2 jAt_K)⟩
theorem ls_5 (hG : jFul G) (hX : va_X b L xs (js0 G) (js0 G).heap) (hb : b < jL G) (hL : L ≤ 3072) (hi : i + 6 ≤ L) (r : Rel N C M) : Lst G b i M (nI 5) := by
  obtain ⟨v, M1, M2, N2, C2, e1, e2, r2⟩ := o_late r (xs (i + 1)) (xs (i + 2))
  exact ⟨_, _, M2, r2, fun n q => J.tsIn 461 d_W_40 (v := nI 5) rfl (by decide) (by decide) rfl (by decide) (law_5 hG hX hb hL hi e1 e2 jAt_K)⟩
theorem ls_6 (hG : jFul G) (hX : va_X b L xs (js0 G) (js0 G).heap) (hb : b < jL G) (hL : L ≤ 3072) (hi : i + 6 ≤ L) (r : Rel N C M) : Lst G b i M (nI 6) := by
  obtain ⟨v, M1, M2, N2, C2, e1, e2, r2⟩ := o_lose r (xs (i + 1))
  exact ⟨_, _, M2, r2, fun n q => J.tsIn 498 d_W_40 (v := nI 6) rfl (by decide) (by decide) rfl (by decide) (law_6 hG hX hb hL hi e1 e2 jAt_K)⟩
theorem ls_7 (hG : jFul G) (hX : va_X b L xs (js0 G) (js0 G).heap) (hb : b < jL G) (hL : L ≤ 3072) (hi : i + 6 ≤ L) (r : Rel N C M) : Lst G b i M (nI 7) := by
  obtain ⟨v, M1, M2, N2, C2, e1, e2, r2⟩ := o_again r (xs (i + 1)) (xs (i + 2)) (xs (i + 3))
  exact ⟨_, _, M2, r2, fun n q => J.tsIn 523 d_W_40 (v := nI 7) rfl (by decide) (by decide) rfl (by decide) (law_7 hG hX hb hL hi e1 e2 jAt_K)⟩
theorem ls_8 (hG : jFul G) (hX : va_X b L xs (js0 G) (js0 G).heap) (hb : b < jL G) (hL : L ≤ 3072) (hi : i + 6 ≤ L) (r : Rel N C M) : Lst G b i M (nI 8) := by
  obtain ⟨v, M1, M2, N2, C2, e1, e2, r2⟩ := o_split r (xs (i + 1)) (xs (i + 2)) (xs (i + 3))
  exact ⟨_, _, M2, r2, fun n q => J.tsIn 572 d_W_40 (v := nI 8) rfl (by decide) (by decide) rfl (by decide) (law_8 hG hX hb hL hi e1 e2 jAt_K)⟩
theorem ls_9 (hG : jFul G) (hX : va_X b L xs (js0 G) (js0 G).heap) (hb : b < jL G) (hL : L ≤ 3072) (hi : i + 6 ≤ L) (r : Rel N C M) : Lst G b i M (nI 9) := by
  obtain ⟨v, M1, M2, N2, C2, e1, e2, r2⟩ := o_days r (xs (i + 1))
  exact ⟨_, _, M2, r2, fun n q => J.tsIn 621 d_W_40 (v := nI 9) rfl (by decide) (by decide) rfl (by decide) (law_9 hG hX hb hL hi e1 e2 jAt_K)⟩
theorem ls_10 (hG : jFul G) (hX : va_X b L xs (js0 G) (js0 G).heap) (hb : b < jL G) (hL : L ≤ 3072) (hi : i + 6 ≤ L) (r : Rel N C M) : Lst G b i M (nI 10) := by
  obtain ⟨v, M1, M2, N2, C2, e1, e2, r2⟩ := o_read r (xs (i + 1)) (xs (i + 2))
  exact ⟨_, _, M2, r2, fun n q => J.tsIn 646 d_W_40 (v := nI 10) rfl (by decide) (by decide) rfl (by decide) (law_10 hG hX hb hL hi e1 e2 jAt_K)⟩
theorem ls_12 (hG : jFul G) (hX : va_X b L xs (js0 G) (js0 G).heap) (hb : b < jL G) (hL : L ≤ 3072) (hi : i + 6 ≤ L) (r : Rel N C M) : Lst G b i M (nI 12) := by
  obtain ⟨v, M1, M2, e1, e2, r2⟩ := (q_copy r (xs (i + 1)) (xs (i + 2))).rel fr_C_copy fr_M_copy rfl rfl r
  exact ⟨_, _, M2, r2, fun n q => J.tsIn 751 d_W_40 (v := nI 12) rfl (by decide) (by decide) rfl (by decide) (law_12 hG hX hb hL hi e1 e2 jAt_K)⟩
theorem ls_13 (hG : jFul G) (hX : va_X b L xs (js0 G) (js0 G).heap) (hb : b < jL G) (hL : L ≤ 3072) (hi : i + 6 ≤ L) (r : Rel N C M) : Lst G b i M (nI 13) := by
  obtain ⟨v, M1, M2, e1, e2, r2⟩ := (q_desk r (xs (i + 1)) (xs (i + 2))).rel fr_C_desk fr_M_desk rfl rfl r
  exact ⟨_, _, M2, r2, fun n q => J.tsIn 788 d_W_40 (v := nI 13) rfl (by decide) (by decide) rfl (by decide) (law_13 hG hX hb hL hi e1 e2 jAt_K)⟩
theorem ls_14 (hG : jFul G) (hX : va_X b L xs (js0 G) (js0 G).heap) (hb : b < jL G) (hL : L ≤ 3072) (hi : i + 6 ≤ L) (r : Rel N C M) : Lst G b i M (nI 14) := by
  obtain ⟨v, M1, M2, e1, e2, r2⟩ := (q_before r (xs (i + 1)) (xs (i + 2))).rel fr_C_before fr_M_before rfl rfl r
  exact ⟨_, _, M2, r2, fun n q => J.tsIn 825 d_W_40 (v := nI 14) rfl (by decide) (by decide) rfl (by decide) (law_14 hG hX hb hL hi e1 e2 jAt_K)⟩
theorem ls_15 (hG : jFul G) (hX : va_X b L xs (js0 G) (js0 G).heap) (hb : b < jL G) (hL : L ≤ 3072) (hi : i + 6 ≤ L) (r : Rel N C M) : Lst G b i M (nI 15) := by
  obtain ⟨v, M1, M2, e1, e2, r2⟩ := (q_path r (xs (i + 1)) (xs (i + 2)) (xs (i + 3))).rel fr_C_path fr_M_path rfl rfl r
  exact ⟨_, _, M2, r2, fun n q => J.tsIn 862 d_W_40 (v := nI 15) rfl (by decide) (by decide) rfl (by decide) (law_15 hG hX hb hL hi e1 e2 jAt_K)⟩
theorem ls_16 (hG : jFul G) (hX : va_X b L xs (js0 G) (js0 G).heap) (hb : b < jL G) (hL : L ≤ 3072) (hi : i + 6 ≤ L) (r : Rel N C M) : Lst G b i M (nI 16) := by
  obtain ⟨v, M1, M2, e1, e2, r2⟩ := (q_sum r (xs (i + 1))).rel fr_C_sum fr_M_sum rfl rfl r
  exact ⟨_, _, M2, r2, fun n q => J.tsIn 911 d_W_40 (v := nI 16) rfl (by decide) (by decide) rfl (by decide) (law_16 hG hX hb hL hi e1 e2 jAt_K)⟩
theorem ls_17 (hG : jFul G) (hX : va_X b L xs (js0 G) (js0 G).heap) (hb : b < jL G) (hL : L ≤ 3072) (hi : i + 6 ≤ L) (r : Rel N C M) : Lst G b i M (nI 17) := by
  obtain ⟨v, M1, M2, e1, e2, r2⟩ := (q_number r (xs (i + 1)) (xs (i + 2))).rel fr_C_number fr_M_number rfl rfl r
  exact ⟨_, _, M2, r2, fun n q => J.tsIn 936 d_W_40 (v := nI 17) rfl (by decide) (by decide) rfl (by decide) (law_17 hG hX hb hL hi e1 e2 jAt_K)⟩
theorem ls_18 (hG : jFul G) (hX : va_X b L xs (js0 G) (js0 G).heap) (hb : b < jL G) (hL : L ≤ 3072) (hi : i + 6 ≤ L) (r : Rel N C M) : Lst G b i M (nI 18) := by
  obtain ⟨v, M1, M2, e1, e2, r2⟩ := (q_pair r (xs (i + 1)) (xs (i + 2)) (xs (i + 3))).rel fr_C_pair fr_M_pair rfl rfl r
  exact ⟨_, _, M2, r2, fun n q => J.tsIn 973 d_W_40 (v := nI 18) rfl (by decide) (by decide) rfl (by decide) (law_18 hG hX hb hL hi e1 e2 jAt_K)⟩
theorem ls_19 (hG : jFul G) (hX : va_X b L xs (js0 G) (js0 G).heap) (hb : b < jL G) (hL : L ≤ 3072) (hi : i + 6 ≤ L) (r : Rel N C M) : Lst G b i M (nI 19) := by
  obtain ⟨v, M1, M2, e1, e2, r2⟩ := (q_list r (xs (i + 1))).rel fr_C_list fr_M_list rfl rfl r
  exact ⟨_, _, M2, r2, fun n q => J.tsIn 1022 d_W_40 (v := nI 19) rfl (by decide) (by decide) rfl (by decide) (law_19 hG hX hb hL hi e1 e2 jAt_K)⟩
theorem ls_20 (hG : jFul G) (hX : va_X b L xs (js0 G) (js0 G).heap) (hb : b < jL G) (hL : L ≤ 3072) (hi : i + 6 ≤ L) (r : Rel N C M) : Lst G b i M (nI 20) := by
  obtain ⟨v, M1, M2, e1, e2, r2⟩ := (q_tells r (xs (i + 1)) (xs (i + 2)) (xs (i + 3))).rel fr_C_tells fr_M_tells rfl rfl r
  exact ⟨_, _, M2, r2, fun n q => J.tsIn 1047 d_W_40 (v := nI 20) rfl (by decide) (by decide) rfl (by decide) (law_20 hG hX hb hL hi e1 e2 jAt_K)⟩
theorem ls_21 (hG : jFul G) (hX : va_X b L xs (js0 G) (js0 G).heap) (hb : b < jL G) (hL : L ≤ 3072) (hi : i + 6 ≤ L) (r : Rel N C M) : Lst G b i M (nI 21) := by
  obtain ⟨v, M1, M2, e1, e2, r2⟩ := (q_errs r (xs (i + 1))).rel fr_C_errs fr_M_errs rfl rfl r
  exact ⟨_, _, M2, r2, fun n q => J.tsIn 1096 d_W_40 (v := nI 21) rfl (by decide) (by decide) rfl (by decide) (law_21 hG hX hb hL hi e1 e2 jAt_K)⟩
theorem ls_22 (hG : jFul G) (hX : va_X b L xs (js0 G) (js0 G).heap) (hb : b < jL G) (hL : L ≤ 3072) (hi : i + 6 ≤ L) (r : Rel N C M) : Lst G b i M (nI 22) := by
  obtain ⟨v, M1, M2, e1, e2, r2⟩ := (q_chains r (xs (i + 1))).rel fr_C_chains fr_M_chains rfl rfl r
  exact ⟨_, _, M2, r2, fun n q => J.tsIn 1121 d_W_40 (v := nI 22) rfl (by decide) (by decide) rfl (by decide) (law_22 hG hX hb hL hi e1 e2 jAt_K)⟩
theorem ls_23 (hG : jFul G) (hX : va_X b L xs (js0 G) (js0 G).heap) (hb : b < jL G) (hL : L ≤ 3072) (hi : i + 6 ≤ L) (r : Rel N C M) : Lst G b i M (nI 23) := by
  obtain ⟨v, M1, M2, e1, e2, r2⟩ := (q_waits r (xs (i + 1)) (xs (i + 2))).rel fr_C_waits fr_M_waits rfl rfl r
  exact ⟨_, _, M2, r2, fun n q => J.tsIn 1146 d_W_40 (v := nI 23) rfl (by decide) (by decide) rfl (by decide) (law_23 hG hX hb hL hi e1 e2 jAt_K)⟩
theorem ls_24 (hG : jFul G) (hX : va_X b L xs (js0 G) (js0 G).heap) (hb : b < jL G) (hL : L ≤ 3072) (hi : i + 6 ≤ L) (r : Rel N C M) : Lst G b i M (nI 24) := by
  obtain ⟨v, M1, M2, e1, e2, r2⟩ := (q_ever r (xs (i + 1))).rel fr_C_ever fr_M_ever rfl rfl r
  exact ⟨_, _, M2, r2, fun n q => J.tsIn 1183 d_W_40 (v := nI 24) rfl (by decide) (by decide) rfl (by decide) (law_24 hG hX hb hL hi e1 e2 jAt_K)⟩
theorem ls_25 (hG : jFul G) (hX : va_X b L xs (js0 G) (js0 G).heap) (hb : b < jL G) (hL : L ≤ 3072) (hi : i + 6 ≤ L) (r : Rel N C M) : Lst G b i M (nI 25) := by
  obtain ⟨v, M1, M2, e1, e2, r2⟩ := (q_has r (xs (i + 1))).rel fr_C_has fr_M_has rfl rfl r
  exact ⟨_, _, M2, r2, fun n q => J.tsIn 1208 d_W_40 (v := nI 25) rfl (by decide) (by decide) rfl (by decide) (law_25 hG hX hb hL hi e1 e2 jAt_K)⟩
theorem ls_26 (hG : jFul G) (hX : va_X b L xs (js0 G) (js0 G).heap) (hb : b < jL G) (hL : L ≤ 3072) (hi : i + 6 ≤ L) (r : Rel N C M) : Lst G b i M (nI 26) := by
  obtain ⟨v, M1, M2, e1, e2, r2⟩ := (q_readOn r (xs (i + 1)) (xs (i + 2))).rel fr_C_readOn fr_M_readOn rfl rfl r
  exact ⟨_, _, M2, r2, fun n q => J.tsIn 1233 d_W_40 (v := nI 26) rfl (by decide) (by decide) rfl (by decide) (law_26 hG hX hb hL hi e1 e2 jAt_K)⟩
theorem ls_27 (hG : jFul G) (hX : va_X b L xs (js0 G) (js0 G).heap) (hb : b < jL G) (hL : L ≤ 3072) (hi : i + 6 ≤ L) (r : Rel N C M) : Lst G b i M (nI 27) := by
  obtain ⟨v, M1, M2, e1, e2, r2⟩ := (q_spread r (xs (i + 1)) (xs (i + 2))).rel fr_C_spread fr_M_spread rfl rfl r
  exact ⟨_, _, M2, r2, fun n q => J.tsIn 1270 d_W_40 (v := nI 27) rfl (by decide) (by decide) rfl (by decide) (law_27 hG hX hb hL hi e1 e2 jAt_K)⟩
theorem ls_28 (hG : jFul G) (hX : va_X b L xs (js0 G) (js0 G).heap) (hb : b < jL G) (hL : L ≤ 3072) (hi : i + 6 ≤ L) (r : Rel N C M) : Lst G b i M (nI 28) := by
  obtain ⟨v, M1, M2, e1, e2, r2⟩ := (q_all r (xs (i + 1))).rel fr_C_all fr_M_all rfl rfl r
  exact ⟨_, _, M2, r2, fun n q => J.tsIn 1307 d_W_40 (v := nI 28) rfl (by decide) (by decide) rfl (by decide) (law_28 hG hX hb hL hi e1 e2 jAt_K)⟩
theorem ls_29 (hG : jFul G) (hX : va_X b L xs (js0 G) (js0 G).heap) (hb : b < jL G) (hL : L ≤ 3072) (hi : i + 6 ≤ L) (r : Rel N C M) : Lst G b i M (nI 29) := by
  obtain ⟨v, M1, M2, N2, C2, e1, e2, r2⟩ := o_burn r (xs (i + 1))
  exact ⟨_, _, M2, r2, fun n q => J.tsIn 1332 d_W_40 (v := nI 29) rfl (by decide) (by decide) rfl (by decide) (law_29 hG hX hb hL hi e1 e2 jAt_K)⟩
theorem ls_30 (hG : jFul G) (hX : va_X b L xs (js0 G) (js0 G).heap) (hb : b < jL G) (hL : L ≤ 3072) (hi : i + 6 ≤ L) (r : Rel N C M) : Lst G b i M (nI 30) := by
  obtain ⟨v, M1, M2, e1, e2, r2⟩ := (q_could r (xs (i + 1)) (xs (i + 2))).rel fr_C_could fr_M_could rfl rfl r
  exact ⟨_, _, M2, r2, fun n q => J.tsIn 1357 d_W_40 (v := nI 30) rfl (by decide) (by decide) rfl (by decide) (law_30 hG hX hb hL hi e1 e2 jAt_K)⟩
theorem ls_31 (hG : jFul G) (hX : va_X b L xs (js0 G) (js0 G).heap) (hb : b < jL G) (hL : L ≤ 3072) (hi : i + 6 ≤ L) (r : Rel N C M) : Lst G b i M (nI 31) := by
  obtain ⟨v, M1, M2, e1, e2, r2⟩ := (q_forged r (xs (i + 1)) (xs (i + 2)) (xs (i + 3))).rel fr_C_forged fr_M_forged rfl rfl r
  exact ⟨_, _, M2, r2, fun n q => J.tsIn 1394 d_W_40 (v := nI 31) rfl (by decide) (by decide) rfl (by decide) (law_31 hG hX hb hL hi e1 e2 jAt_K)⟩
theorem ls_32 (hG : jFul G) (hX : va_X b L xs (js0 G) (js0 G).heap) (hb : b < jL G) (hL : L ≤ 3072) (hi : i + 6 ≤ L) (r : Rel N C M) : Lst G b i M (nI 32) := by
  obtain ⟨v, M1, M2, e1, e2, r2⟩ := (q_forgers r (xs (i + 1)) (xs (i + 2))).rel fr_C_forgers fr_M_forgers rfl rfl r
  exact ⟨_, _, M2, r2, fun n q => J.tsIn 1443 d_W_40 (v := nI 32) rfl (by decide) (by decide) rfl (by decide) (law_32 hG hX hb hL hi e1 e2 jAt_K)⟩
theorem ls_33 (hG : jFul G) (hX : va_X b L xs (js0 G) (js0 G).heap) (hb : b < jL G) (hL : L ≤ 3072) (hi : i + 6 ≤ L) (r : Rel N C M) : Lst G b i M (nI 33) := by
  obtain ⟨v, M1, M2, N2, C2, e1, e2, r2⟩ := o_ahead r (xs (i + 1)) (xs (i + 2))
  exact ⟨_, _, M2, r2, fun n q => J.tsIn 1480 d_W_40 (v := nI 33) rfl (by decide) (by decide) rfl (by decide) (law_33 hG hX hb hL hi e1 e2 jAt_K)⟩
theorem ls_34 (hG : jFul G) (hX : va_X b L xs (js0 G) (js0 G).heap) (hb : b < jL G) (hL : L ≤ 3072) (hi : i + 6 ≤ L) (r : Rel N C M) : Lst G b i M (nI 34) := by
  obtain ⟨v, M1, M2, e1, e2, r2⟩ := (q_orders r (xs (i + 1))).rel fr_C_orders fr_M_orders rfl rfl r
  exact ⟨_, _, M2, r2, fun n q => J.tsIn 1517 d_W_40 (v := nI 34) rfl (by decide) (by decide) rfl (by decide) (law_34 hG hX hb hL hi e1 e2 jAt_K)⟩
theorem ls_35 (hG : jFul G) (hX : va_X b L xs (js0 G) (js0 G).heap) (hb : b < jL G) (hL : L ≤ 3072) (hi : i + 6 ≤ L) (r : Rel N C M) : Lst G b i M (nI 35) := by
  obtain ⟨v, M1, M2, e1, e2, r2⟩ := (q_order r (xs (i + 1)) (xs (i + 2)) (xs (i + 3))).rel fr_C_order fr_M_order rfl rfl r
  exact ⟨_, _, M2, r2, fun n q => J.tsIn 1542 d_W_40 (v := nI 35) rfl (by decide) (by decide) rfl (by decide) (law_35 hG hX hb hL hi e1 e2 jAt_K)⟩
theorem ls_36 (hG : jFul G) (hX : va_X b L xs (js0 G) (js0 G).heap) (hb : b < jL G) (hL : L ≤ 3072) (hi : i + 6 ≤ L) (r : Rel N C M) : Lst G b i M (nI 36) := by
  obtain ⟨v, M1, M2, e1, e2, r2⟩ := (q_first r (xs (i + 1)) (xs (i + 2)) (xs (i + 3))).rel fr_C_first fr_M_first rfl rfl r
  exact ⟨_, _, M2, r2, fun n q => J.tsIn 1591 d_W_40 (v := nI 36) rfl (by decide) (by decide) rfl (by decide) (law_36 hG hX hb hL hi e1 e2 jAt_K)⟩
theorem ls_37 (hG : jFul G) (hX : va_X b L xs (js0 G) (js0 G).heap) (hb : b < jL G) (hL : L ≤ 3072) (hi : i + 6 ≤ L) (r : Rel N C M) : Lst G b i M (nI 37) := by
  obtain ⟨v, M1, M2, e1, e2, r2⟩ := (q_ask r (xs (i + 1))).rel fr_C_ask fr_M_ask rfl rfl r
  exact ⟨_, _, M2, r2, fun n q => J.tsIn 1640 d_W_40 (v := nI 37) rfl (by decide) (by decide) rfl (by decide) (law_37 hG hX hb hL hi e1 e2 jAt_K)⟩
theorem ls_38 (hG : jFul G) (hX : va_X b L xs (js0 G) (js0 G).heap) (hb : b < jL G) (hL : L ≤ 3072) (hi : i + 6 ≤ L) (r : Rel N C M) : Lst G b i M (nI 38) := by
  obtain ⟨v, M1, M2, e1, e2, r2⟩ := (q_hangs r (xs (i + 1)) (xs (i + 2))).rel fr_C_hangs fr_M_hangs rfl rfl r
  exact ⟨_, _, M2, r2, fun n q => J.tsIn 1665 d_W_40 (v := nI 38) rfl (by decide) (by decide) rfl (by decide) (law_38 hG hX hb hL hi e1 e2 jAt_K)⟩
theorem ls_39 (hG : jFul G) (hX : va_X b L xs (js0 G) (js0 G).heap) (hb : b < jL G) (hL : L ≤ 3072) (hi : i + 6 ≤ L) (r : Rel N C M) : Lst G b i M (nI 39) := by
  obtain ⟨v, M1, M2, e1, e2, r2⟩ := (q_count r (xs (i + 1))).rel fr_C_count fr_M_count rfl rfl r
  exact ⟨_, _, M2, r2, fun n q => J.tsIn 1702 d_W_40 (v := nI 39) rfl (by decide) (by decide) rfl (by decide) (law_39 hG hX hb hL hi e1 e2 jAt_K)⟩
theorem law_step (hG : jFul G) (hX : va_X b L xs (js0 G) (js0 G).heap) (hb : b < jL G) (hL : L ≤ 3072) (hi : i + 6 ≤ L) (r : Rel N C M) (x : Int32) (h11 : ¬ x = nI 11) : Lst G b i M x := by
  rcases ixN x (n := 40) (by omega) with hx | ⟨k, hk, rfl⟩
  · refine ⟨N, C, M, r, fun n q => J.tsOut 1727 d_W_40 ?_ rfl jAt_K⟩
    have e40 : (nI 40).toInt = 40 := by decide
    have e0 : (nI 0).toInt = 0 := by decide
    rcases hx with hx | hx
    · exact Or.inl (by have := Int32.lt_iff_toInt_lt.mp hx; omega)
    · exact Or.inr (by have := Int32.le_iff_toInt_le.mp hx; omega)
  · match k, hk, h11 with
    | 0, _, _ => exact ls_0 hG hX hb hL hi r
    | 1, _, _ => exact ls_1 hG hX hb hL hi r
    | 2, _, _ => exact ls_2 hG hX hb hL hi r
    | 3, _, _ => exact ls_3 hG hX hb hL hi r
    | 4, _, _ => exact ls_4 hG hX hb hL hi r
    | 5, _, _ => exact ls_5 hG hX hb hL hi r
    | 6, _, _ => exact ls_6 hG hX hb hL hi r
    | 7, _, _ => exact ls_7 hG hX hb hL hi r
    | 8, _, _ => exact ls_8 hG hX hb hL hi r
    | 9, _, _ => exact ls_9 hG hX hb hL hi r
    | 10, _, _ => exact ls_10 hG hX hb hL hi r
    | 11, _, h11 => exact absurd rfl h11
    | 12, _, _ => exact ls_12 hG hX hb hL hi r
    | 13, _, _ => exact ls_13 hG hX hb hL hi r
    | 14, _, _ => exact ls_14 hG hX hb hL hi r
    | 15, _, _ => exact ls_15 hG hX hb hL hi r
    | 16, _, _ => exact ls_16 hG hX hb hL hi r
    | 17, _, _ => exact ls_17 hG hX hb hL hi r
    | 18, _, _ => exact ls_18 hG hX hb hL hi r
    | 19, _, _ => exact ls_19 hG hX hb hL hi r
    | 20, _, _ => exact ls_20 hG hX hb hL hi r
    | 21, _, _ => exact ls_21 hG hX hb hL hi r
    | 22, _, _ => exact ls_22 hG hX hb hL hi r
    | 23, _, _ => exact ls_23 hG hX hb hL hi r
    | 24, _, _ => exact ls_24 hG hX hb hL hi r
    | 25, _, _ => exact ls_25 hG hX hb hL hi r
    | 26, _, _ => exact ls_26 hG hX hb hL hi r
    | 27, _, _ => exact ls_27 hG hX hb hL hi r
    | 28, _, _ => exact ls_28 hG hX hb hL hi r
    | 29, _, _ => exact ls_29 hG hX hb hL hi r
    | 30, _, _ => exact ls_30 hG hX hb hL hi r
    | 31, _, _ => exact ls_31 hG hX hb hL hi r
    | 32, _, _ => exact ls_32 hG hX hb hL hi r
    | 33, _, _ => exact ls_33 hG hX hb hL hi r
    | 34, _, _ => exact ls_34 hG hX hb hL hi r
    | 35, _, _ => exact ls_35 hG hX hb hL hi r
    | 36, _, _ => exact ls_36 hG hX hb hL hi r
    | 37, _, _ => exact ls_37 hG hX hb hL hi r
    | 38, _, _ => exact ls_38 hG hX hb hL hi r
    | 39, _, _ => exact ls_39 hG hX hb hL hi r
    | k + 40, hk, _ => exact absurd hk (by omega)
end LSP
