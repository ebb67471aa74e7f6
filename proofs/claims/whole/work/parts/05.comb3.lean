/-! texts that are constants: code 2001 + i; their bytes: 3001 + i; the two tables: 4001, 4002 -/
abbrev jsk (w : Nat) : Prop := 2001 ≤ w ∧ w ≤ 2034
def jsl (w : Nat) : Int32 := Int32.ofNat (jstN.getD (w - 2001) 0)
def jsc (w : Nat) (i : Int32) : Int32 := (jstB.getD (w - 2001) []).getD i.toNatClampNeg 0
def jSL {ρ : Type} (w : Nat) (K : Int32 → Option ρ) : Option ρ := if jsk w then K (jsl w) else none
def jSC {ρ : Type} (w : Nat) (i : Int32) (K : Int32 → Option ρ) : Option ρ := if jsk w ∧ ¬ (i < 0 ∨ jstN.getD (w - 2001) 0 ≤ i.toNatClampNeg) then K (jsc w i) else none
def jL33 {ρ : Type} (i : Int32) (K : Nat → Option ρ) : Option ρ := if i < 0 ∨ 33 ≤ i.toNatClampNeg then none else K (1001 + i.toNatClampNeg)
def jLsw {ρ : Type} (i : Int32) (K : Int32 → Option ρ) : Option ρ := if i < 0 ∨ 33 ≤ i.toNatClampNeg then none else K (jswL.getD i.toNatClampNeg 0)
theorem jSL_some {ρ : Type} {w : Nat} {K : Int32 → Option ρ} {r : ρ} (h : jSL w K = some r) : ∃ x, jsl w = x ∧ jsk w ∧ K x = some r := by
  unfold jSL at h
  split at h
  · exact ⟨_, rfl, by assumption, h⟩
  · cases h
theorem jSC_some {ρ : Type} {w : Nat} {i : Int32} {K : Int32 → Option ρ} {r : ρ} (h : jSC w i K = some r) : ∃ x, jsc w i = x ∧ (jsk w ∧ vp_in i (jstN.getD (w - 2001) 0)) ∧ K x = some r := by
  unfold jSC at h
  split at h
  · exact ⟨_, rfl, by assumption, h⟩
  · cases h
theorem jL33_some {ρ : Type} {i : Int32} {K : Nat → Option ρ} {r : ρ} (h : jL33 i K = some r) : ∃ x, 1001 + i.toNatClampNeg = x ∧ vp_in i 33 ∧ K x = some r := by
  unfold jL33 at h
  split at h
  · cases h
  · exact ⟨_, rfl, by assumption, h⟩
theorem jLsw_some {ρ : Type} {i : Int32} {K : Int32 → Option ρ} {r : ρ} (h : jLsw i K = some r) : ∃ x, jswL.getD i.toNatClampNeg 0 = x ∧ vp_in i 33 ∧ K x = some r := by
  unfold jLsw at h
  split at h
  · cases h
  · exact ⟨_, rfl, by assumption, h⟩
theorem jAvV {i : Nat} {v : Value} {av : List Value} {ls : List (Nat × Value)} (hc : v.category = 1) (h : jAv (i + 1) av ls) : jAv i (v :: av) ((i, v) :: ls) := by
  obtain ⟨h1, h2⟩ := h
  refine ⟨?_, ?_⟩
  · rw [← h1, lv_args, if_neg (by rw [hc]; decide)]
  · rw [List.length_cons, ← h2]
    unfold lg_sl
    rw [List.flatMap_cons, if_neg (by rw [hc]; decide)]
    simp
section JW3
variable {G : jG} {Y : jY} {pc : Nat} {ls : List (Nat × Value)} {st : List Value} {M : jMem} {Q : jQT} {R : jRes}
theorem J.getsp {index n : Nat} (hd : decode (jcc Y) pc = .ok (.getfield index, 3)) (hn : jtk n) (hl0 : Cond.fieldLink (jy Y).cls index "CitingLetters$Token" "spelling" "Ljava/lang/String;" ∈ jw ∨ ∃ host, Cond.fieldLinkNest (jy Y).cls index "CitingLetters$Token" "spelling" "Ljava/lang/String;" host ∈ jnest) (K : JQ G Y (pc + 3) ls (jr G (2001 + jspL.getD (n - 1001) 0) :: st) M Q) : JQ G Y pc ls (jr G n :: st) M Q := by
  intro p e s m args below meth c H locs la rm F hF hW hS hl
  have K := K p e s m args below meth c H locs la rm F hF hW hS hl
  obtain ⟨a1, a2⟩ := hn
  rw [jr_pos (by omega)]
  rw [jr_pos (by omega)] at K
  obtain ⟨cf, k, fi, f, cell, h1, h2, h3, h4, h5, h6⟩ := (((F.co hW hS).2.2.1) (n - 1001) (by omega)).kept hS.2.1
  rw [show jad G n = jad G (1001 + (n - 1001)) by rw [Nat.add_sub_cancel' a1]]
  rcases hl0 with hl0 | ⟨host, hl0⟩
  · exact W.getf F.1 F.2.1 F.2.2.2.1 (F.2.2.2.2.1 _ hl0) h1 h2 h3 h4 h5 rfl rfl hd K
  · exact va_Wgetf F.1 F.2.1 F.2.2.2.1 (va_Nw.use rfl (F.ne hl0)) h1 h2 h3 h4 h5 rfl rfl hd K
theorem J.sval {index w : Nat} (hd : decode (jcc Y) pc = .ok (.getfield index, 3)) (hw : jsk w) (hl0 : Cond.fieldLink (jy Y).cls index "java/lang/String" "value" "[B" ∈ jw) (K : JQ G Y (pc + 3) ls (jr G (w + 1000) :: st) M Q) : JQ G Y pc ls (jr G w :: st) M Q := by
  intro p e s m args below meth c H locs la rm F hF hW hS hl
  have K := K p e s m args below meth c H locs la rm F hF hW hS hl
  obtain ⟨a1, a2⟩ := hw
  rw [jr_pos (by omega)]
  rw [jr_pos (by omega)] at K
  obtain ⟨-, -, h9, -⟩ := (F.co hW hS).2.1 (w - 2001) (by omega)
  obtain ⟨cf, k, fi, f, cell, h1, h2, h3, h4, h5, h6⟩ := h9.kept hS.2.1
  rw [show jad G w = jad G (2001 + (w - 2001)) by rw [Nat.add_sub_cancel' a1]]
  rw [show w + 1000 = 3001 + (w - 2001) by omega] at K
  exact W.getf F.1 F.2.1 F.2.2.2.1 (F.2.2.2.2.1 _ hl0) h1 h2 h3 h4 h5 rfl rfl hd K
theorem J.scod {index w : Nat} (hd : decode (jcc Y) pc = .ok (.getfield index, 3)) (hw : jsk w) (hl0 : Cond.fieldLink (jy Y).cls index "java/lang/String" "coder" "B" ∈ jw) (K : JQ G Y (pc + 3) ls (.int 0 :: st) M Q) : JQ G Y pc ls (jr G w :: st) M Q := by
  intro p e s m args below meth c H locs la rm F hF hW hS hl
  have K := K p e s m args below meth c H locs la rm F hF hW hS hl
  obtain ⟨a1, a2⟩ := hw
  rw [jr_pos (by omega)]
  obtain ⟨-, h9, -, -⟩ := (F.co hW hS).2.1 (w - 2001) (by omega)
  obtain ⟨cf, k, fi, f, cell, h1, h2, h3, h4, h5, h6⟩ := h9.kept hS.2.1
  rw [show jad G w = jad G (2001 + (w - 2001)) by rw [Nat.add_sub_cancel' a1]]
  exact W.getf F.1 F.2.1 F.2.2.2.1 (F.2.2.2.2.1 _ hl0) h1 h2 h3 h4 h5 rfl rfl hd K
theorem J.blen {w : Nat} (hd : decode (jcc Y) pc = .ok (.arraylength, 1)) (hw : jsk w) (K : JQ G Y (pc + 1) ls (.int (jsl w) :: st) M Q) : JQ G Y pc ls (jr G (w + 1000) :: st) M Q := by
  intro p e s m args below meth c H locs la rm F hF hW hS hl
  obtain ⟨a1, a2⟩ := hw
  rw [jr_pos (by omega), show w + 1000 = 3001 + (w - 2001) by omega]
  obtain ⟨-, -, -, h9⟩ := (F.co hW hS).2.1 (w - 2001) (by omega)
  exact va_tlen F.1 F.2.1 h9 hS rfl hd (K p e s m args below meth c H locs la rm F hF hW hS hl)
theorem J.bald {w : Nat} {i : Int32} (hd : decode (jcc Y) pc = .ok (.baload, 1)) (hw : jsk w) (hi : vp_in i (jstN.getD (w - 2001) 0)) (K : JQ G Y (pc + 1) ls (.int (jsc w i) :: st) M Q) : JQ G Y pc ls (.int i :: jr G (w + 1000) :: st) M Q := by
  intro p e s m args below meth c H locs la rm F hF hW hS hl
  obtain ⟨a1, a2⟩ := hw
  rw [jr_pos (by omega), show w + 1000 = 3001 + (w - 2001) by omega]
  obtain ⟨-, -, -, h9⟩ := (F.co hW hS).2.1 (w - 2001) (by omega)
  exact va_tb F.1 F.2.1 h9 hS hi rfl hd (K p e s m args below meth c H locs la rm F hF hW hS hl)
theorem J.i2c {x v : Int32} (hd : decode (jcc Y) pc = .ok (.i2c, 1)) (hv : (x.toUInt32 % 65536).toInt32 = v) (K : JQ G Y (pc + 1) ls (.int v :: st) M Q) : JQ G Y pc ls (.int x :: st) M Q := by
  intro p e s m args below meth c H locs la rm F hF hW hS hl
  exact lv_i2c F.1 F.2.1 hd hv (K p e s m args below meth c H locs la rm F hF hW hS hl)
theorem J.gcs {index : Nat} (hd : decode (jcc Y) pc = .ok (.getstatic index, 3)) (hl0 : Cond.fieldLink (jy Y).cls index "java/lang/String" "COMPACT_STRINGS" "Z" ∈ jw) (K : JQ G Y (pc + 3) ls (.int 1 :: st) M Q) : JQ G Y pc ls st M Q := by
  intro p e s m args below meth c H locs la rm F hF hW hS hl
  exact va_gets F.1 F.2.1 (F.co hW hS).2.2.2.2.2.1 hS F.2.2.2.1 (F.2.2.2.2.1 _ hl0) (fun x hx => hx) hd (K p e s m args below meth c H locs la rm F hF hW hS hl)
theorem J.gsq {index : Nat} (hd : decode (jcc Y) pc = .ok (.getstatic index, 3)) (hl0 : Cond.fieldLink (jy Y).cls index "jdk/internal/util/Preconditions" "SIOOBE_FORMATTER" "Ljava/util/function/BiFunction;" ∈ jw) (K : ∀ v : Value, v.category = 1 → JQ G Y (pc + 3) ls (v :: st) M Q) : JQ G Y pc ls st M Q := by
  intro p e s m args below meth c H locs la rm F hF hW hS hl
  rcases (F.co hW hS).2.2.2.2.2.2 with h9 | ⟨t, h9⟩
  · exact va_gets F.1 F.2.1 h9 hS F.2.2.2.1 (F.2.2.2.2.1 _ hl0) (fun x hx => hx) hd (K _ rfl p e s m args below meth c H locs la rm F hF hW hS hl)
  · exact va_gets F.1 F.2.1 h9 hS F.2.2.2.1 (F.2.2.2.2.1 _ hl0) (fun x hx => hx) hd (K _ rfl p e s m args below meth c H locs la rm F hF hW hS hl)
theorem J.geach {index : Nat} {host : String} (hd : decode (jcc Y) pc = .ok (.getstatic index, 3)) (hl0 : Cond.fieldLinkNest (jy Y).cls index "CitingLetters$Token" "EACH" "[LCitingLetters$Token;" host ∈ jnest) (K : JQ G Y (pc + 3) ls (jr G 4001 :: st) M Q) : JQ G Y pc ls st M Q := by
  intro p e s m args below meth c H locs la rm F hF hW hS hl
  have K := K p e s m args below meth c H locs la rm F hF hW hS hl
  rw [jr_pos (by omega)] at K
  exact va_getsN F.1 F.2.1 (F.co hW hS).2.2.2.1.1 hS F.2.2.2.1 (va_Nw.use rfl (F.ne hl0)) (fun x hx => hx) hd K
theorem J.eachlen (hd : decode (jcc Y) pc = .ok (.arraylength, 1)) (K : JQ G Y (pc + 1) ls (.int 33 :: st) M Q) : JQ G Y pc ls (jr G 4001 :: st) M Q := by
  intro p e s m args below meth c H locs la rm F hF hW hS hl
  rw [jr_pos (by omega)]
  exact va_tlen F.1 F.2.1 (F.co hW hS).2.2.2.1.2 hS rfl hd (K p e s m args below meth c H locs la rm F hF hW hS hl)
theorem J.eachld {i : Int32} {n : Nat} (hd : decode (jcc Y) pc = .ok (.aaload, 1)) (hi : vp_in i 33) (hn : 1001 + i.toNatClampNeg = n) (K : JQ G Y (pc + 1) ls (jr G n :: st) M Q) : JQ G Y pc ls (.int i :: jr G 4001 :: st) M Q := by
  intro p e s m args below meth c H locs la rm F hF hW hS hl
  have K := K p e s m args below meth c H locs la rm F hF hW hS hl
  subst hn
  rw [jr_pos (by omega)] at K ⊢
  exact vb_tq F.1 F.2.1 (F.co hW hS).2.2.2.1.2 hS hi rfl hd K
theorem J.gsw {index : Nat} (hd : decode (jcc Y) pc = .ok (.getstatic index, 3)) (hl0 : Cond.fieldLink (jy Y).cls index "CitingLetters$1" "$SwitchMap$CitingLetters$Token" "[I" ∈ jw) (K : JQ G Y (pc + 3) ls (jr G 4002 :: st) M Q) : JQ G Y pc ls st M Q := by
  intro p e s m args below meth c H locs la rm F hF hW hS hl
  have K := K p e s m args below meth c H locs la rm F hF hW hS hl
  rw [jr_pos (by omega)] at K
  exact va_gets F.1 F.2.1 (F.co hW hS).2.2.2.2.1.1 hS F.2.2.2.1 (F.2.2.2.2.1 _ hl0) (fun x hx => hx) hd K
theorem J.swld {i x : Int32} (hd : decode (jcc Y) pc = .ok (.iaload, 1)) (hi : vp_in i 33) (hx : jswL.getD i.toNatClampNeg 0 = x) (K : JQ G Y (pc + 1) ls (.int x :: st) M Q) : JQ G Y pc ls (.int i :: jr G 4002 :: st) M Q := by
  intro p e s m args below meth c H locs la rm F hF hW hS hl
  subst hx
  rw [jr_pos (by omega)]
  exact va_ti F.1 F.2.1 (F.co hW hS).2.2.2.2.1.2 hS hi rfl hd (K p e s m args below meth c H locs la rm F hF hW hS hl)
theorem J.ldcS {index i : Nat} {tx : String} (hd : decode (jcc Y) pc = .ok (.ldc index, 2)) (hi : i < 3) (hq : jstL.getD i ("", 0, "") = ((jy Y).cls, index, tx)) (K : JQ G Y (pc + 2) ls (jr G (2001 + i) :: st) M Q) : JQ G Y pc ls st M Q := by
  intro p e s m args below meth c H locs la rm F hF hW hS hl
  have K := K p e s m args below meth c H locs la rm F hF hW hS hl
  rw [jr_pos (by omega)] at K
  have h9 := F.stt.2 i hi
  rw [hq] at h9
  exact va_ldcS F.1 F.2.1 F.2.2.2.1 h9 hd K
theorem J.ordf {index n : Nat} (hd : decode (jcc Y) pc = .ok (.getfield index, 3)) (hn : jtk n) (hl0 : Cond.fieldLink (jy Y).cls index "java/lang/Enum" "ordinal" "I" ∈ jw) (K : JQ G Y (pc + 3) ls (.int (jtokO.getD (n - 1001) 0) :: st) M Q) : JQ G Y pc ls (jr G n :: st) M Q :=
  J.getk (q := ("java/lang/Enum", "ordinal", "I", jtokO)) hd hn (by decide) (Or.inl hl0) K
/-- a call at a text that is a constant -/
theorem J.callStr (Z : jY) {index w : Nat} {As rest : List Value} {rv : Option Value} {M1 : jMem} (hd : decode (jcc Y) pc = .ok (.invokevirtual index, 3)) (hm : jMi (jy Z) (jcc Z) (jnL Z) (jret Z) As.length) (hv : jMv (jy Z)) (hlk : Cond.methodLink (jy Y).cls index (jy Z) ∈ jw) (hz : jcs Z = 0 ∧ jss Z = 0 ∧ jd Z + 1 ≤ jd Y) (hcl : (jy Z).cls = "java/lang/String")
    (hw : jsk w) (hct : jCt G Z (jr G w :: As) M (rv, M1)) (hst : st = As.reverse ++ jr G w :: rest) (hrs : (rest.map fun v => v.category).sum ≤ 8) (K : JQ G Y (pc + 3) ls (rv.toList ++ rest) M1 Q) : JQ G Y pc ls st M Q := by
  intro p e s m args below meth c0 H locs la rm F hF hW hS hl
  obtain ⟨hcode, hini, hdd, hnL, -⟩ := hm
  obtain ⟨hin, hse⟩ := hv
  obtain ⟨hz1, hz2, hz3⟩ := hz
  have hM := hct F.gl
  obtain ⟨a1, a2⟩ := hw
  rw [jr_pos (by omega)] at hst hM
  obtain ⟨cell, q1, q2, q3, -⟩ := ((F.co hW hS).2.1 (w - 2001) (by omega)).1.kept hS.2.1
  rw [show 2001 + (w - 2001) = w by omega] at q1
  have hp : PreV s H (jy Z).cls (jad G w) (jPc G (.ref (jad G w) :: As) M) As := ⟨jPc_blind, ⟨cell, q1, q2, by rw [hcl]; exact q3⟩, fun U hU hWm => ⟨rfl, by rw [hU]; exact hW, F.2.2.2.2.2.2.2.1.trans hWm.alike, F.stt.warm hWm⟩⟩
  have hroom : (jrm (jd Z) (jcs Z) (jss Z)).frames + 1 ≤ rm.frames ∧ 8 + (jnL Z + 11) + (jrm (jd Z) (jcs Z) (jss Z)).locals ≤ rm.locals := by
    obtain ⟨q1, q2, q3, q4⟩ := hF
    unfold jrm
    dsimp only
    omega
  have hfit : jcs Y + jcs Z ≤ rm.cells ∧ jss Y + jss Z ≤ rm.slots := by
    obtain ⟨q1, q2, q3, q4⟩ := hF
    omega
  subst hst
  have hts := F.2.2.2.2.1
  exact J.back hz1 hz2 F hF hW hS hl (va_runV (As := As) (rest := rest) ⟨F.1, F.2.1, F.2.2.1, F.2.2.2.1, hts⟩ hM ⟨callB_of As.length hts (jws_GI hcode) rfl rfl rfl (hts _ hini) (hts _ hlk) hdd hroom, hts _ hin, hts _ hse⟩ hp rfl rfl hl.1 rfl (lv_room hrs) hd hfit) K
/-- ordinal() of a constant of the enum -/
theorem J.callOrd (Z : jY) {index n : Nat} {rest : List Value} {rv : Option Value} {M1 : jMem} (hd : decode (jcc Y) pc = .ok (.invokevirtual index, 3)) (hy : jy Z = ⟨"java/lang/Enum", "ordinal", "()I"⟩) (hm : jMi (jy Z) (jcc Z) (jnL Z) (jret Z) 0) (hwd : Cond.methodLink (jy Y).cls index ⟨"CitingLetters$Token", "ordinal", "()I"⟩ ∈ jw ∧ Cond.sameMethod "CitingLetters$Token" "java/lang/Enum" "ordinal" "()I" ∈ jw ∧ Cond.selects "CitingLetters$Token" ⟨"CitingLetters$Token", "ordinal", "()I"⟩ ⟨"java/lang/Enum", "ordinal", "()I"⟩ ∈ jw ∧ Cond.instanceMethod ⟨"java/lang/Enum", "ordinal", "()I"⟩ ∈ jw) (hz : jcs Z = 0 ∧ jss Z = 0 ∧ jd Z + 1 ≤ jd Y)
    (hn : jtk n) (hct : jCt G Z [jr G n] M (rv, M1)) (hst : st = jr G n :: rest) (hrs : (rest.map fun v => v.category).sum ≤ 8) (K : JQ G Y (pc + 3) ls (rv.toList ++ rest) M1 Q) : JQ G Y pc ls st M Q := by
  intro p e s m args below meth c0 H locs la rm F hF hW hS hl
  obtain ⟨hcode, hini, hdd, hnL, -⟩ := hm
  obtain ⟨w1, w2, w3, w4⟩ := hwd
  obtain ⟨hz1, hz2, hz3⟩ := hz
  have hM := hct F.gl
  obtain ⟨a1, a2⟩ := hn
  rw [jr_pos (by omega)] at hst hM
  have hr := va_recvE (F.En hW hS) (i := n - 1001) (by show n - 1001 < 33; omega) hS
  simp only [Nat.add_sub_cancel' a1] at hr
  have hp : PreV s H "CitingLetters$Token" (jad G n) (jPc G (.ref (jad G n) :: []) M) [] := ⟨jPc_blind, hr, fun U hU hWm => ⟨rfl, by rw [hU]; exact hW, F.2.2.2.2.2.2.2.1.trans hWm.alike, F.stt.warm hWm⟩⟩
  have hroom : (jrm (jd Z) (jcs Z) (jss Z)).frames + 1 ≤ rm.frames ∧ 8 + (jnL Z + 11) + (jrm (jd Z) (jcs Z) (jss Z)).locals ≤ rm.locals := by
    obtain ⟨q1, q2, q3, q4⟩ := hF
    unfold jrm
    dsimp only
    omega
  have hfit : jcs Y + jcs Z ≤ rm.cells ∧ jss Y + jss Z ≤ rm.slots := by
    obtain ⟨q1, q2, q3, q4⟩ := hF
    omega
  subst hst
  have hts := F.2.2.2.2.1
  have hG : GoodIn jw (va_wsU (jy Y).cls index "CitingLetters$Token" "java/lang/Enum" ⟨"CitingLetters$Token", "ordinal", "()I"⟩ (jy Z) (jws Z)) := by
    intro w hw
    unfold va_wsU at hw
    rcases List.mem_append.mp hw with h | h
    · have h6 : w ∈ jw := by
        simp only [List.mem_cons, List.not_mem_nil, or_false] at h
        rcases h with rfl | rfl | rfl | rfl | rfl
        · exact w1
        · exact w2
        · rw [hy]; exact w3
        · rw [hy]; exact w4
        · exact hini
      exact ⟨h6, jw_good h6⟩
    · exact jws_GI hcode w h
  exact J.back hz1 hz2 F hF hW hS hl (va_runU (As := []) (rest := rest) ⟨F.1, F.2.1, F.2.2.1, F.2.2.2.1, hts⟩ hM (va_cwU 0 hts hG rfl rfl rfl hy ⟨by decide +kernel, by decide +kernel, by decide +kernel⟩ hroom) hp rfl rfl hl.1 rfl (lv_room hrs) hd hfit) K
end JW3
def jlt {α ρ : Type} (v : α) (K : α → Option ρ) : Option ρ := K v
theorem jlt_some {α ρ : Type} {v : α} {K : α → Option ρ} {r : ρ} (h : jlt v K = some r) : ∃ x, v = x ∧ K x = some r := ⟨_, rfl, h⟩
def jtkO (n : Nat) : Int32 := jtokO.getD (n - 1001) 0
def jtkP (n : Nat) : Int32 := jtokP.getD (n - 1001) 0
def jtkR (n : Nat) : Int32 := jtokR.getD (n - 1001) 0
def jtkS (n : Nat) : Nat := 2001 + jspL.getD (n - 1001) 0
section JW4
variable {G : jG} {Y : jY} {pc : Nat} {ls : List (Nat × Value)} {st : List Value} {M : jMem} {Q : jQT} {R : jRes}
theorem J.gkP {index n : Nat} {x : Int32} (hd : decode (jcc Y) pc = .ok (.getfield index, 3)) (hn : jtk n) (hl0 : Cond.fieldLink (jy Y).cls index "CitingLetters$Token" "part" "I" ∈ jw ∨ ∃ host, Cond.fieldLinkNest (jy Y).cls index "CitingLetters$Token" "part" "I" host ∈ jnest) (hx : jtkP n = x) (K : JQ G Y (pc + 3) ls (.int x :: st) M Q) : JQ G Y pc ls (jr G n :: st) M Q :=
  J.getk (q := ("CitingLetters$Token", "part", "I", jtokP)) hd hn (by decide) hl0 (by rw [show (jtokP.getD (n - 1001) 0) = x from hx]; exact K)
theorem J.gkR {index n : Nat} {x : Int32} (hd : decode (jcc Y) pc = .ok (.getfield index, 3)) (hn : jtk n) (hl0 : Cond.fieldLink (jy Y).cls index "CitingLetters$Token" "rank" "I" ∈ jw ∨ ∃ host, Cond.fieldLinkNest (jy Y).cls index "CitingLetters$Token" "rank" "I" host ∈ jnest) (hx : jtkR n = x) (K : JQ G Y (pc + 3) ls (.int x :: st) M Q) : JQ G Y pc ls (jr G n :: st) M Q :=
  J.getk (q := ("CitingLetters$Token", "rank", "I", jtokR)) hd hn (by decide) hl0 (by rw [show (jtokR.getD (n - 1001) 0) = x from hx]; exact K)
theorem J.gkO {index n : Nat} {x : Int32} (hd : decode (jcc Y) pc = .ok (.getfield index, 3)) (hn : jtk n) (hl0 : Cond.fieldLink (jy Y).cls index "java/lang/Enum" "ordinal" "I" ∈ jw) (hx : jtkO n = x) (K : JQ G Y (pc + 3) ls (.int x :: st) M Q) : JQ G Y pc ls (jr G n :: st) M Q :=
  J.ordf hd hn hl0 (by rw [show (jtokO.getD (n - 1001) 0) = x from hx]; exact K)
theorem J.gkS {index n x : Nat} (hd : decode (jcc Y) pc = .ok (.getfield index, 3)) (hn : jtk n) (hl0 : Cond.fieldLink (jy Y).cls index "CitingLetters$Token" "spelling" "Ljava/lang/String;" ∈ jw ∨ ∃ host, Cond.fieldLinkNest (jy Y).cls index "CitingLetters$Token" "spelling" "Ljava/lang/String;" host ∈ jnest) (hx : jtkS n = x) (K : JQ G Y (pc + 3) ls (jr G x :: st) M Q) : JQ G Y pc ls (jr G n :: st) M Q :=
  J.getsp hd hn hl0 (by rw [show 2001 + jspL.getD (n - 1001) 0 = x from hx]; exact K)
end JW4
