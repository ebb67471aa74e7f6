set_option maxRecDepth 20000
section JCF
variable {G : jG} {Y : jY} {k0 pc : Nat} {ls : List (Nat × Value)} {st : List Value} {k sl : Nat} {F : Nat → Nat → Nat} {M : jMem} {Q : jQT}
theorem JC.fold {pc' k' sl' : Nat} {F' : Nat → Nat → Nat} {M' : jMem} (h0 : pc = pc') (h1 : k = k') (h2 : sl = sl') (h3 : F = F') (h4 : M = M') (K : JCQ G Y k0 pc' ls st k' sl' F' M' Q) : JCQ G Y k0 pc ls st k sl F M Q := by
  subst h0 h1 h2 h3 h4
  exact K
theorem jr_narA {n : Nat} {t : FieldType} : narrow (.array t) (jr G n) = jr G n := by
  rcases jr_or G n with h | ⟨a, h⟩ <;> rw [h] <;> rfl
theorem jr_fitA {n : Nat} {t : FieldType} : fits (.array t) (jr G n) = true := by
  rcases jr_or G n with h | ⟨a, h⟩ <;> rw [h] <;> rfl
theorem J.ialdF {c : Nat} {i x : Int32} (hd : decode (jcc Y) pc = .ok (.iaload, 1)) (hc : 0 < c ∧ c ≤ jK G) (hin : vp_in i (jlen 1 c)) (hx : M c i.toNatClampNeg = x) (K : JQ G Y (pc + 1) ls (.int x :: st) M Q) : JQ G Y pc ls (.int i :: jr G c :: st) M Q := J.iald hd hc hin (by rw [hx]; exact K)
theorem J.iastF {c : Nat} {i x : Int32} {m' : jMem} (hd : decode (jcc Y) pc = .ok (.iastore, 1)) (hc : 0 < c ∧ c ≤ jK G) (hin : vp_in i (jlen 1 c)) (hm : jup M c i.toNatClampNeg x = m') (K : JQ G Y (pc + 1) ls st m' Q) : JQ G Y pc ls (.int x :: .int i :: jr G c :: st) M Q := J.iast hd hc hin (by rw [hm]; exact K)
end JCF
abbrev Y_C_ini : jY := (⟨"CitingLetters", "<init>", "()V"⟩, prog_1_method_1_code, 1, none, 3, 107, 12388)
theorem mi_C_ini : jMi ⟨"CitingLetters", "<init>", "()V"⟩ prog_1_method_1_code 1 none 0 := ⟨jt_1 31 rfl rfl, jt_1 1 rfl rfl, ⟨by decide +kernel, by decide +kernel, by decide +kernel⟩, by decide, by decide +kernel⟩
theorem zi_C_ini : jret Y_C_ini = none ∧ (jy Y_C_ini).name = "<init>" ∧ Cond.instanceMethod (jy Y_C_ini) ∈ jw := ⟨rfl, rfl, jt_1 30 rfl rfl⟩
theorem wOI_C : Cond.methodLink "CitingLetters" 1 Lib.objectInit ∈ jw ∧ Cond.instanceMethod Lib.objectInit ∈ jw ∧ Cond.code Lib.objectInit ⟨#[0xb1]⟩ 1 none ∈ jw := ⟨jt_1 32 rfl rfl, jt_1 33 rfl rfl, jt_1 34 rfl rfl⟩
theorem flc_C_9 : jFl "CitingLetters" 9 0 0 := ⟨"CitingLetters", jTC, 13, rfl, by decide, rfl, iw_C, rfl, Or.inl (jt_2 162 rfl rfl)⟩
theorem flp_C_9 : ∃ (C : String) (T : u_T) (N : Nat) (ty0 : Nat → FieldType), jcl[0]? = some (C, T, N) ∧ Cond.fieldLink "CitingLetters" 9 C (T 0).2.1 (T 0).2.2.1 ∈ jw ∧ (∀ k, k < N → parseFieldDescriptor (T k).2.2.1 = some (ty0 k)) ∧ (∀ a, a < N → ∀ b, b < N → a ≠ b → (T a).2.1 ≠ (T b).2.1) ∧ (T 0).2.2.2 = true ∧ (T 0).1 = "CitingLetters" ∧ parseFieldDescriptor (T 0).2.2.1 = some (.array .int) := ⟨"CitingLetters", jTC, 13, jtC, rfl, jt_2 162 rfl rfl, jtC_ok, jnC_ok, rfl, rfl, by decide +kernel⟩
theorem wnew_C_13 : Cond.classLink "CitingLetters" 13 "CitingLetters$Habits" ∈ jw ∧ Cond.instantiable "CitingLetters$Habits" 13 ∈ jw ∧ Cond.initialized "CitingLetters$Habits" ∈ jw := ⟨jt_1 35 rfl rfl, jt_1 36 rfl rfl, jt_1 2 rfl rfl⟩
theorem lkc_C_15 : jLk "CitingLetters" 15 ⟨"CitingLetters$Habits", "<init>", "()V"⟩ := Or.inr ⟨"CitingLetters", jn_1 37 rfl rfl⟩
abbrev Y_H_ini : jY := (⟨"CitingLetters$Habits", "<init>", "()V"⟩, prog_6_method_1_code, 1, none, 1, 8, 230)
theorem mi_H_ini : jMi ⟨"CitingLetters$Habits", "<init>", "()V"⟩ prog_6_method_1_code 1 none 0 := ⟨jt_1 39 rfl rfl, jt_1 2 rfl rfl, ⟨by decide +kernel, by decide +kernel, by decide +kernel⟩, by decide, by decide +kernel⟩
theorem zi_H_ini : jret Y_H_ini = none ∧ (jy Y_H_ini).name = "<init>" ∧ Cond.instanceMethod (jy Y_H_ini) ∈ jw := ⟨rfl, rfl, jt_1 38 rfl rfl⟩
theorem wOI_H : Cond.methodLink "CitingLetters$Habits" 3 Lib.objectInit ∈ jw ∧ Cond.instanceMethod Lib.objectInit ∈ jw ∧ Cond.code Lib.objectInit ⟨#[0xb1]⟩ 1 none ∈ jw := ⟨jt_1 40 rfl rfl, jt_1 33 rfl rfl, jt_1 34 rfl rfl⟩
theorem flc_H_11 : jFl "CitingLetters$Habits" 11 1 0 := ⟨"CitingLetters$Habits", jTH, 13, rfl, by decide, rfl, iw_H, rfl, Or.inl (jt_1 43 rfl rfl)⟩
theorem flp_H_11 : ∃ (C : String) (T : u_T) (N : Nat) (ty0 : Nat → FieldType), jcl[1]? = some (C, T, N) ∧ Cond.fieldLink "CitingLetters$Habits" 11 C (T 0).2.1 (T 0).2.2.1 ∈ jw ∧ (∀ k, k < N → parseFieldDescriptor (T k).2.2.1 = some (ty0 k)) ∧ (∀ a, a < N → ∀ b, b < N → a ≠ b → (T a).2.1 ≠ (T b).2.1) ∧ (T 0).2.2.2 = true ∧ (T 0).1 = "CitingLetters$Habits" ∧ parseFieldDescriptor (T 0).2.2.1 = some (.array (.object "CitingLetters$Token")) := ⟨"CitingLetters$Habits", jTH, 13, jtH, rfl, jt_1 43 rfl rfl, jtH_ok, jnH_ok, rfl, rfl, by decide +kernel⟩
theorem flc_H_17 : jFl "CitingLetters$Habits" 17 1 3 := ⟨"CitingLetters$Habits", jTH, 13, rfl, by decide, rfl, iw_H, rfl, Or.inl (jt_1 48 rfl rfl)⟩
theorem flp_H_17 : ∃ (C : String) (T : u_T) (N : Nat) (ty0 : Nat → FieldType), jcl[1]? = some (C, T, N) ∧ Cond.fieldLink "CitingLetters$Habits" 17 C (T 3).2.1 (T 3).2.2.1 ∈ jw ∧ (∀ k, k < N → parseFieldDescriptor (T k).2.2.1 = some (ty0 k)) ∧ (∀ a, a < N → ∀ b, b < N → a ≠ b → (T a).2.1 ≠ (T b).2.1) ∧ (T 3).2.2.2 = true ∧ (T 3).1 = "CitingLetters$Habits" ∧ parseFieldDescriptor (T 3).2.2.1 = some (.array .boolean) := ⟨"CitingLetters$Habits", jTH, 13, jtH, rfl, jt_1 48 rfl rfl, jtH_ok, jnH_ok, rfl, rfl, by decide +kernel⟩
theorem flc_H_21 : jFl "CitingLetters$Habits" 21 1 4 := ⟨"CitingLetters$Habits", jTH, 13, rfl, by decide, rfl, iw_H, rfl, Or.inl (jt_1 50 rfl rfl)⟩
theorem flp_H_21 : ∃ (C : String) (T : u_T) (N : Nat) (ty0 : Nat → FieldType), jcl[1]? = some (C, T, N) ∧ Cond.fieldLink "CitingLetters$Habits" 21 C (T 4).2.1 (T 4).2.2.1 ∈ jw ∧ (∀ k, k < N → parseFieldDescriptor (T k).2.2.1 = some (ty0 k)) ∧ (∀ a, a < N → ∀ b, b < N → a ≠ b → (T a).2.1 ≠ (T b).2.1) ∧ (T 4).2.2.2 = true ∧ (T 4).1 = "CitingLetters$Habits" ∧ parseFieldDescriptor (T 4).2.2.1 = some (.array .int) := ⟨"CitingLetters$Habits", jTH, 13, jtH, rfl, jt_1 50 rfl rfl, jtH_ok, jnH_ok, rfl, rfl, by decide +kernel⟩
theorem flc_H_25 : jFl "CitingLetters$Habits" 25 1 5 := ⟨"CitingLetters$Habits", jTH, 13, rfl, by decide, rfl, iw_H, rfl, Or.inl (jt_1 52 rfl rfl)⟩
theorem flp_H_25 : ∃ (C : String) (T : u_T) (N : Nat) (ty0 : Nat → FieldType), jcl[1]? = some (C, T, N) ∧ Cond.fieldLink "CitingLetters$Habits" 25 C (T 5).2.1 (T 5).2.2.1 ∈ jw ∧ (∀ k, k < N → parseFieldDescriptor (T k).2.2.1 = some (ty0 k)) ∧ (∀ a, a < N → ∀ b, b < N → a ≠ b → (T a).2.1 ≠ (T b).2.1) ∧ (T 5).2.2.2 = true ∧ (T 5).1 = "CitingLetters$Habits" ∧ parseFieldDescriptor (T 5).2.2.1 = some (.array .int) := ⟨"CitingLetters$Habits", jTH, 13, jtH, rfl, jt_1 52 rfl rfl, jtH_ok, jnH_ok, rfl, rfl, by decide +kernel⟩
theorem flc_H_28 : jFl "CitingLetters$Habits" 28 1 6 := ⟨"CitingLetters$Habits", jTH, 13, rfl, by decide, rfl, iw_H, rfl, Or.inl (jt_1 53 rfl rfl)⟩
theorem flp_H_28 : ∃ (C : String) (T : u_T) (N : Nat) (ty0 : Nat → FieldType), jcl[1]? = some (C, T, N) ∧ Cond.fieldLink "CitingLetters$Habits" 28 C (T 6).2.1 (T 6).2.2.1 ∈ jw ∧ (∀ k, k < N → parseFieldDescriptor (T k).2.2.1 = some (ty0 k)) ∧ (∀ a, a < N → ∀ b, b < N → a ≠ b → (T a).2.1 ≠ (T b).2.1) ∧ (T 6).2.2.2 = true ∧ (T 6).1 = "CitingLetters$Habits" ∧ parseFieldDescriptor (T 6).2.2.1 = some (.array .int) := ⟨"CitingLetters$Habits", jTH, 13, jtH, rfl, jt_1 53 rfl rfl, jtH_ok, jnH_ok, rfl, rfl, by decide +kernel⟩
theorem flc_H_31 : jFl "CitingLetters$Habits" 31 1 8 := ⟨"CitingLetters$Habits", jTH, 13, rfl, by decide, rfl, iw_H, rfl, Or.inl (jt_1 57 rfl rfl)⟩
theorem flp_H_31 : ∃ (C : String) (T : u_T) (N : Nat) (ty0 : Nat → FieldType), jcl[1]? = some (C, T, N) ∧ Cond.fieldLink "CitingLetters$Habits" 31 C (T 8).2.1 (T 8).2.2.1 ∈ jw ∧ (∀ k, k < N → parseFieldDescriptor (T k).2.2.1 = some (ty0 k)) ∧ (∀ a, a < N → ∀ b, b < N → a ≠ b → (T a).2.1 ≠ (T b).2.1) ∧ (T 8).2.2.2 = true ∧ (T 8).1 = "CitingLetters$Habits" ∧ parseFieldDescriptor (T 8).2.2.1 = some (.array (.object "CitingLetters$Token")) := ⟨"CitingLetters$Habits", jTH, 13, jtH, rfl, jt_1 57 rfl rfl, jtH_ok, jnH_ok, rfl, rfl, by decide +kernel⟩
theorem flc_H_34 : jFl "CitingLetters$Habits" 34 1 9 := ⟨"CitingLetters$Habits", jTH, 13, rfl, by decide, rfl, iw_H, rfl, Or.inl (jt_1 58 rfl rfl)⟩
theorem flp_H_34 : ∃ (C : String) (T : u_T) (N : Nat) (ty0 : Nat → FieldType), jcl[1]? = some (C, T, N) ∧ Cond.fieldLink "CitingLetters$Habits" 34 C (T 9).2.1 (T 9).2.2.1 ∈ jw ∧ (∀ k, k < N → parseFieldDescriptor (T k).2.2.1 = some (ty0 k)) ∧ (∀ a, a < N → ∀ b, b < N → a ≠ b → (T a).2.1 ≠ (T b).2.1) ∧ (T 9).2.2.2 = true ∧ (T 9).1 = "CitingLetters$Habits" ∧ parseFieldDescriptor (T 9).2.2.1 = some (.array .int) := ⟨"CitingLetters$Habits", jTH, 13, jtH, rfl, jt_1 58 rfl rfl, jtH_ok, jnH_ok, rfl, rfl, by decide +kernel⟩
theorem flc_H_37 : jFl "CitingLetters$Habits" 37 1 12 := ⟨"CitingLetters$Habits", jTH, 13, rfl, by decide, rfl, iw_H, rfl, Or.inl (jt_1 64 rfl rfl)⟩
theorem flp_H_37 : ∃ (C : String) (T : u_T) (N : Nat) (ty0 : Nat → FieldType), jcl[1]? = some (C, T, N) ∧ Cond.fieldLink "CitingLetters$Habits" 37 C (T 12).2.1 (T 12).2.2.1 ∈ jw ∧ (∀ k, k < N → parseFieldDescriptor (T k).2.2.1 = some (ty0 k)) ∧ (∀ a, a < N → ∀ b, b < N → a ≠ b → (T a).2.1 ≠ (T b).2.1) ∧ (T 12).2.2.2 = true ∧ (T 12).1 = "CitingLetters$Habits" ∧ parseFieldDescriptor (T 12).2.2.1 = some (.array .int) := ⟨"CitingLetters$Habits", jTH, 13, jtH, rfl, jt_1 64 rfl rfl, jtH_ok, jnH_ok, rfl, rfl, by decide +kernel⟩
theorem flc_C_16 : jFl "CitingLetters" 16 0 2 := ⟨"CitingLetters", jTC, 13, rfl, by decide, rfl, iw_C, rfl, Or.inl (jt_2 164 rfl rfl)⟩
theorem fpc_0_2 : jFp 0 2 (.object "CitingLetters$Habits") := ⟨"CitingLetters", jTC, 13, jtC, rfl, jtC_ok, jnC_ok, rfl, by decide +kernel⟩
theorem flc_C_20 : jFl "CitingLetters" 20 0 3 := ⟨"CitingLetters", jTC, 13, rfl, by decide, rfl, iw_C, rfl, Or.inl (jt_2 165 rfl rfl)⟩
theorem fpc_0_3 : jFp 0 3 (.object "CitingLetters$Habits") := ⟨"CitingLetters", jTC, 13, jtC, rfl, jtC_ok, jnC_ok, rfl, by decide +kernel⟩
theorem wnew_C_23 : Cond.classLink "CitingLetters" 23 "CitingLetters$TextReader" ∈ jw ∧ Cond.instantiable "CitingLetters$TextReader" 13 ∈ jw ∧ Cond.initialized "CitingLetters$TextReader" ∈ jw := ⟨jt_1 94 rfl rfl, jt_1 95 rfl rfl, jt_1 3 rfl rfl⟩
theorem lkc_C_25 : jLk "CitingLetters" 25 ⟨"CitingLetters$TextReader", "<init>", "([ILCitingLetters$Habits;)V"⟩ := Or.inl (jt_1 96 rfl rfl)
abbrev Y_R_ini : jY := (⟨"CitingLetters$TextReader", "<init>", "([ILCitingLetters$Habits;)V"⟩, prog_11_method_1_code, 3, none, 2, 6, 1290)
theorem mi_R_ini : jMi ⟨"CitingLetters$TextReader", "<init>", "([ILCitingLetters$Habits;)V"⟩ prog_11_method_1_code 3 none 2 := ⟨jt_1 98 rfl rfl, jt_1 3 rfl rfl, ⟨by decide +kernel, by decide +kernel, by decide +kernel⟩, by decide, by decide +kernel⟩
theorem zi_R_ini : jret Y_R_ini = none ∧ (jy Y_R_ini).name = "<init>" ∧ Cond.instanceMethod (jy Y_R_ini) ∈ jw := ⟨rfl, rfl, jt_1 97 rfl rfl⟩
theorem wOI_R : Cond.methodLink "CitingLetters$TextReader" 3 Lib.objectInit ∈ jw ∧ Cond.instanceMethod Lib.objectInit ∈ jw ∧ Cond.code Lib.objectInit ⟨#[0xb1]⟩ 1 none ∈ jw := ⟨jt_1 99 rfl rfl, jt_1 33 rfl rfl, jt_1 34 rfl rfl⟩
theorem flc_R_15 : jFl "CitingLetters$TextReader" 15 2 2 := ⟨"CitingLetters$TextReader", jTR, 13, rfl, by decide, rfl, iw_R, rfl, Or.inl (jt_1 135 rfl rfl)⟩
theorem fpc_2_2 : jFp 2 2 (.object "CitingLetters$Token") := ⟨"CitingLetters$TextReader", jTR, 13, jtR, rfl, jtR_ok, jnR_ok, rfl, by decide +kernel⟩
theorem flc_R_20 : jFl "CitingLetters$TextReader" 20 2 5 := ⟨"CitingLetters$TextReader", jTR, 13, rfl, by decide, rfl, iw_R, rfl, Or.inl (jt_1 139 rfl rfl)⟩
theorem fpc_2_5 : jFp 2 5 .int := ⟨"CitingLetters$TextReader", jTR, 13, jtR, rfl, jtR_ok, jnR_ok, rfl, by decide +kernel⟩
theorem flc_R_24 : jFl "CitingLetters$TextReader" 24 2 7 := ⟨"CitingLetters$TextReader", jTR, 13, rfl, by decide, rfl, iw_R, rfl, Or.inl (jt_1 142 rfl rfl)⟩
theorem flp_R_24 : ∃ (C : String) (T : u_T) (N : Nat) (ty0 : Nat → FieldType), jcl[2]? = some (C, T, N) ∧ Cond.fieldLink "CitingLetters$TextReader" 24 C (T 7).2.1 (T 7).2.2.1 ∈ jw ∧ (∀ k, k < N → parseFieldDescriptor (T k).2.2.1 = some (ty0 k)) ∧ (∀ a, a < N → ∀ b, b < N → a ≠ b → (T a).2.1 ≠ (T b).2.1) ∧ (T 7).2.2.2 = true ∧ (T 7).1 = "CitingLetters$TextReader" ∧ parseFieldDescriptor (T 7).2.2.1 = some (.array (.object "CitingLetters$Token")) := ⟨"CitingLetters$TextReader", jTR, 13, jtR, rfl, jt_1 142 rfl rfl, jtR_ok, jnR_ok, rfl, rfl, by decide +kernel⟩
theorem flc_R_28 : jFl "CitingLetters$TextReader" 28 2 10 := ⟨"CitingLetters$TextReader", jTR, 13, rfl, by decide, rfl, iw_R, rfl, Or.inl (jt_1 145 rfl rfl)⟩
theorem flp_R_28 : ∃ (C : String) (T : u_T) (N : Nat) (ty0 : Nat → FieldType), jcl[2]? = some (C, T, N) ∧ Cond.fieldLink "CitingLetters$TextReader" 28 C (T 10).2.1 (T 10).2.2.1 ∈ jw ∧ (∀ k, k < N → parseFieldDescriptor (T k).2.2.1 = some (ty0 k)) ∧ (∀ a, a < N → ∀ b, b < N → a ≠ b → (T a).2.1 ≠ (T b).2.1) ∧ (T 10).2.2.2 = true ∧ (T 10).1 = "CitingLetters$TextReader" ∧ parseFieldDescriptor (T 10).2.2.1 = some (.array .boolean) := ⟨"CitingLetters$TextReader", jTR, 13, jtR, rfl, jt_1 145 rfl rfl, jtR_ok, jnR_ok, rfl, rfl, by decide +kernel⟩
theorem wnew_R_32 : Cond.classLink "CitingLetters$TextReader" 32 "CitingLetters$Scanner" ∈ jw ∧ Cond.instantiable "CitingLetters$Scanner" 6 ∈ jw ∧ Cond.initialized "CitingLetters$Scanner" ∈ jw := ⟨jt_1 103 rfl rfl, jt_1 104 rfl rfl, jt_1 6 rfl rfl⟩
theorem lkc_R_34 : jLk "CitingLetters$TextReader" 34 ⟨"CitingLetters$Scanner", "<init>", "([I)V"⟩ := Or.inl (jt_1 105 rfl rfl)
abbrev Y_S_ini : jY := (⟨"CitingLetters$Scanner", "<init>", "([I)V"⟩, prog_10_method_1_code, 2, none, 1, 3, 1203)
theorem mi_S_ini : jMi ⟨"CitingLetters$Scanner", "<init>", "([I)V"⟩ prog_10_method_1_code 2 none 1 := ⟨jt_1 107 rfl rfl, jt_1 6 rfl rfl, ⟨by decide +kernel, by decide +kernel, by decide +kernel⟩, by decide, by decide +kernel⟩
theorem zi_S_ini : jret Y_S_ini = none ∧ (jy Y_S_ini).name = "<init>" ∧ Cond.instanceMethod (jy Y_S_ini) ∈ jw := ⟨rfl, rfl, jt_1 106 rfl rfl⟩
theorem wOI_S : Cond.methodLink "CitingLetters$Scanner" 3 Lib.objectInit ∈ jw ∧ Cond.instanceMethod Lib.objectInit ∈ jw ∧ Cond.code Lib.objectInit ⟨#[0xb1]⟩ 1 none ∈ jw := ⟨jt_1 108 rfl rfl, jt_1 33 rfl rfl, jt_1 34 rfl rfl⟩
theorem flc_S_11 : jFl "CitingLetters$Scanner" 11 3 2 := ⟨"CitingLetters$Scanner", jTS, 6, rfl, by decide, rfl, iw_S, rfl, Or.inl (jt_1 112 rfl rfl)⟩
theorem flp_S_11 : ∃ (C : String) (T : u_T) (N : Nat) (ty0 : Nat → FieldType), jcl[3]? = some (C, T, N) ∧ Cond.fieldLink "CitingLetters$Scanner" 11 C (T 2).2.1 (T 2).2.2.1 ∈ jw ∧ (∀ k, k < N → parseFieldDescriptor (T k).2.2.1 = some (ty0 k)) ∧ (∀ a, a < N → ∀ b, b < N → a ≠ b → (T a).2.1 ≠ (T b).2.1) ∧ (T 2).2.2.2 = true ∧ (T 2).1 = "CitingLetters$Scanner" ∧ parseFieldDescriptor (T 2).2.2.1 = some (.array (.object "CitingLetters$Token")) := ⟨"CitingLetters$Scanner", jTS, 6, jtS, rfl, jt_1 112 rfl rfl, jtS_ok, jnS_ok, rfl, rfl, by decide +kernel⟩
theorem flc_S_17 : jFl "CitingLetters$Scanner" 17 3 3 := ⟨"CitingLetters$Scanner", jTS, 6, rfl, by decide, rfl, iw_S, rfl, Or.inl (jt_1 114 rfl rfl)⟩
theorem flp_S_17 : ∃ (C : String) (T : u_T) (N : Nat) (ty0 : Nat → FieldType), jcl[3]? = some (C, T, N) ∧ Cond.fieldLink "CitingLetters$Scanner" 17 C (T 3).2.1 (T 3).2.2.1 ∈ jw ∧ (∀ k, k < N → parseFieldDescriptor (T k).2.2.1 = some (ty0 k)) ∧ (∀ a, a < N → ∀ b, b < N → a ≠ b → (T a).2.1 ≠ (T b).2.1) ∧ (T 3).2.2.2 = true ∧ (T 3).1 = "CitingLetters$Scanner" ∧ parseFieldDescriptor (T 3).2.2.1 = some (.array .int) := ⟨"CitingLetters$Scanner", jTS, 6, jtS, rfl, jt_1 114 rfl rfl, jtS_ok, jnS_ok, rfl, rfl, by decide +kernel⟩
theorem flc_S_21 : jFl "CitingLetters$Scanner" 21 3 4 := ⟨"CitingLetters$Scanner", jTS, 6, rfl, by decide, rfl, iw_S, rfl, Or.inl (jt_1 116 rfl rfl)⟩
theorem flp_S_21 : ∃ (C : String) (T : u_T) (N : Nat) (ty0 : Nat → FieldType), jcl[3]? = some (C, T, N) ∧ Cond.fieldLink "CitingLetters$Scanner" 21 C (T 4).2.1 (T 4).2.2.1 ∈ jw ∧ (∀ k, k < N → parseFieldDescriptor (T k).2.2.1 = some (ty0 k)) ∧ (∀ a, a < N → ∀ b, b < N → a ≠ b → (T a).2.1 ≠ (T b).2.1) ∧ (T 4).2.2.2 = true ∧ (T 4).1 = "CitingLetters$Scanner" ∧ parseFieldDescriptor (T 4).2.2.1 = some (.array .int) := ⟨"CitingLetters$Scanner", jTS, 6, jtS, rfl, jt_1 116 rfl rfl, jtS_ok, jnS_ok, rfl, rfl, by decide +kernel⟩
theorem flc_S_24 : jFl "CitingLetters$Scanner" 24 3 0 := ⟨"CitingLetters$Scanner", jTS, 6, rfl, by decide, rfl, iw_S, rfl, Or.inl (jt_1 110 rfl rfl)⟩
theorem flp_S_24 : ∃ (C : String) (T : u_T) (N : Nat) (ty0 : Nat → FieldType), jcl[3]? = some (C, T, N) ∧ Cond.fieldLink "CitingLetters$Scanner" 24 C (T 0).2.1 (T 0).2.2.1 ∈ jw ∧ (∀ k, k < N → parseFieldDescriptor (T k).2.2.1 = some (ty0 k)) ∧ (∀ a, a < N → ∀ b, b < N → a ≠ b → (T a).2.1 ≠ (T b).2.1) ∧ (T 0).2.2.2 = true ∧ (T 0).1 = "CitingLetters$Scanner" ∧ parseFieldDescriptor (T 0).2.2.1 = some (.array .int) := ⟨"CitingLetters$Scanner", jTS, 6, jtS, rfl, jt_1 110 rfl rfl, jtS_ok, jnS_ok, rfl, rfl, by decide +kernel⟩
theorem flc_R_37 : jFl "CitingLetters$TextReader" 37 2 0 := ⟨"CitingLetters$TextReader", jTR, 13, rfl, by decide, rfl, iw_R, rfl, Or.inl (jt_1 133 rfl rfl)⟩
theorem flp_R_37 : ∃ (C : String) (T : u_T) (N : Nat) (ty0 : Nat → FieldType), jcl[2]? = some (C, T, N) ∧ Cond.fieldLink "CitingLetters$TextReader" 37 C (T 0).2.1 (T 0).2.2.1 ∈ jw ∧ (∀ k, k < N → parseFieldDescriptor (T k).2.2.1 = some (ty0 k)) ∧ (∀ a, a < N → ∀ b, b < N → a ≠ b → (T a).2.1 ≠ (T b).2.1) ∧ (T 0).2.2.2 = true ∧ (T 0).1 = "CitingLetters$TextReader" ∧ parseFieldDescriptor (T 0).2.2.1 = some (.object "CitingLetters$Scanner") := ⟨"CitingLetters$TextReader", jTR, 13, jtR, rfl, jt_1 133 rfl rfl, jtR_ok, jnR_ok, rfl, rfl, by decide +kernel⟩
theorem flc_R_41 : jFl "CitingLetters$TextReader" 41 2 6 := ⟨"CitingLetters$TextReader", jTR, 13, rfl, by decide, rfl, iw_R, rfl, Or.inl (jt_1 141 rfl rfl)⟩
theorem fpc_2_6 : jFp 2 6 (.object "CitingLetters$Habits") := ⟨"CitingLetters$TextReader", jTR, 13, jtR, rfl, jtR_ok, jnR_ok, rfl, by decide +kernel⟩
theorem flc_C_28 : jFl "CitingLetters" 28 0 4 := ⟨"CitingLetters", jTC, 13, rfl, by decide, rfl, iw_C, rfl, Or.inl (jt_2 166 rfl rfl)⟩
theorem flp_C_28 : ∃ (C : String) (T : u_T) (N : Nat) (ty0 : Nat → FieldType), jcl[0]? = some (C, T, N) ∧ Cond.fieldLink "CitingLetters" 28 C (T 4).2.1 (T 4).2.2.1 ∈ jw ∧ (∀ k, k < N → parseFieldDescriptor (T k).2.2.1 = some (ty0 k)) ∧ (∀ a, a < N → ∀ b, b < N → a ≠ b → (T a).2.1 ≠ (T b).2.1) ∧ (T 4).2.2.2 = true ∧ (T 4).1 = "CitingLetters" ∧ parseFieldDescriptor (T 4).2.2.1 = some (.object "CitingLetters$TextReader") := ⟨"CitingLetters", jTC, 13, jtC, rfl, jt_2 166 rfl rfl, jtC_ok, jnC_ok, rfl, rfl, by decide +kernel⟩
theorem flc_C_32 : jFl "CitingLetters" 32 0 5 := ⟨"CitingLetters", jTC, 13, rfl, by decide, rfl, iw_C, rfl, Or.inl (jt_2 167 rfl rfl)⟩
theorem flp_C_32 : ∃ (C : String) (T : u_T) (N : Nat) (ty0 : Nat → FieldType), jcl[0]? = some (C, T, N) ∧ Cond.fieldLink "CitingLetters" 32 C (T 5).2.1 (T 5).2.2.1 ∈ jw ∧ (∀ k, k < N → parseFieldDescriptor (T k).2.2.1 = some (ty0 k)) ∧ (∀ a, a < N → ∀ b, b < N → a ≠ b → (T a).2.1 ≠ (T b).2.1) ∧ (T 5).2.2.2 = true ∧ (T 5).1 = "CitingLetters" ∧ parseFieldDescriptor (T 5).2.2.1 = some (.array .int) := ⟨"CitingLetters", jTC, 13, jtC, rfl, jt_2 167 rfl rfl, jtC_ok, jnC_ok, rfl, rfl, by decide +kernel⟩
theorem wnew_C_35 : Cond.classLink "CitingLetters" 35 "CitingLetters$Ledger" ∈ jw ∧ Cond.instantiable "CitingLetters$Ledger" 17 ∈ jw ∧ Cond.initialized "CitingLetters$Ledger" ∈ jw := ⟨jt_1 175 rfl rfl, jt_1 176 rfl rfl, jt_1 7 rfl rfl⟩
theorem lkc_C_37 : jLk "CitingLetters" 37 ⟨"CitingLetters$Ledger", "<init>", "()V"⟩ := Or.inr ⟨"CitingLetters", jn_1 177 rfl rfl⟩
abbrev Y_L_ini : jY := (⟨"CitingLetters$Ledger", "<init>", "()V"⟩, prog_7_method_1_code, 1, none, 1, 15, 402)
theorem mi_L_ini : jMi ⟨"CitingLetters$Ledger", "<init>", "()V"⟩ prog_7_method_1_code 1 none 0 := ⟨jt_1 179 rfl rfl, jt_1 7 rfl rfl, ⟨by decide +kernel, by decide +kernel, by decide +kernel⟩, by decide, by decide +kernel⟩
theorem zi_L_ini : jret Y_L_ini = none ∧ (jy Y_L_ini).name = "<init>" ∧ Cond.instanceMethod (jy Y_L_ini) ∈ jw := ⟨rfl, rfl, jt_1 178 rfl rfl⟩
theorem wOI_L : Cond.methodLink "CitingLetters$Ledger" 3 Lib.objectInit ∈ jw ∧ Cond.instanceMethod Lib.objectInit ∈ jw ∧ Cond.code Lib.objectInit ⟨#[0xb1]⟩ 1 none ∈ jw := ⟨jt_1 180 rfl rfl, jt_1 33 rfl rfl, jt_1 34 rfl rfl⟩
theorem flc_L_9 : jFl "CitingLetters$Ledger" 9 4 0 := ⟨"CitingLetters$Ledger", jTL, 17, rfl, by decide, rfl, iw_L, rfl, Or.inl (jt_1 181 rfl rfl)⟩
theorem flp_L_9 : ∃ (C : String) (T : u_T) (N : Nat) (ty0 : Nat → FieldType), jcl[4]? = some (C, T, N) ∧ Cond.fieldLink "CitingLetters$Ledger" 9 C (T 0).2.1 (T 0).2.2.1 ∈ jw ∧ (∀ k, k < N → parseFieldDescriptor (T k).2.2.1 = some (ty0 k)) ∧ (∀ a, a < N → ∀ b, b < N → a ≠ b → (T a).2.1 ≠ (T b).2.1) ∧ (T 0).2.2.2 = true ∧ (T 0).1 = "CitingLetters$Ledger" ∧ parseFieldDescriptor (T 0).2.2.1 = some (.array .int) := ⟨"CitingLetters$Ledger", jTL, 17, jtL, rfl, jt_1 181 rfl rfl, jtL_ok, jnL_ok, rfl, rfl, by decide +kernel⟩
theorem flc_L_15 : jFl "CitingLetters$Ledger" 15 4 1 := ⟨"CitingLetters$Ledger", jTL, 17, rfl, by decide, rfl, iw_L, rfl, Or.inl (jt_1 184 rfl rfl)⟩
theorem flp_L_15 : ∃ (C : String) (T : u_T) (N : Nat) (ty0 : Nat → FieldType), jcl[4]? = some (C, T, N) ∧ Cond.fieldLink "CitingLetters$Ledger" 15 C (T 1).2.1 (T 1).2.2.1 ∈ jw ∧ (∀ k, k < N → parseFieldDescriptor (T k).2.2.1 = some (ty0 k)) ∧ (∀ a, a < N → ∀ b, b < N → a ≠ b → (T a).2.1 ≠ (T b).2.1) ∧ (T 1).2.2.2 = true ∧ (T 1).1 = "CitingLetters$Ledger" ∧ parseFieldDescriptor (T 1).2.2.1 = some (.array .int) := ⟨"CitingLetters$Ledger", jTL, 17, jtL, rfl, jt_1 184 rfl rfl, jtL_ok, jnL_ok, rfl, rfl, by decide +kernel⟩
theorem flc_L_18 : jFl "CitingLetters$Ledger" 18 4 2 := ⟨"CitingLetters$Ledger", jTL, 17, rfl, by decide, rfl, iw_L, rfl, Or.inl (jt_1 187 rfl rfl)⟩
theorem flp_L_18 : ∃ (C : String) (T : u_T) (N : Nat) (ty0 : Nat → FieldType), jcl[4]? = some (C, T, N) ∧ Cond.fieldLink "CitingLetters$Ledger" 18 C (T 2).2.1 (T 2).2.2.1 ∈ jw ∧ (∀ k, k < N → parseFieldDescriptor (T k).2.2.1 = some (ty0 k)) ∧ (∀ a, a < N → ∀ b, b < N → a ≠ b → (T a).2.1 ≠ (T b).2.1) ∧ (T 2).2.2.2 = true ∧ (T 2).1 = "CitingLetters$Ledger" ∧ parseFieldDescriptor (T 2).2.2.1 = some (.array .int) := ⟨"CitingLetters$Ledger", jTL, 17, jtL, rfl, jt_1 187 rfl rfl, jtL_ok, jnL_ok, rfl, rfl, by decide +kernel⟩
theorem flc_L_21 : jFl "CitingLetters$Ledger" 21 4 3 := ⟨"CitingLetters$Ledger", jTL, 17, rfl, by decide, rfl, iw_L, rfl, Or.inl (jt_1 189 rfl rfl)⟩
theorem flp_L_21 : ∃ (C : String) (T : u_T) (N : Nat) (ty0 : Nat → FieldType), jcl[4]? = some (C, T, N) ∧ Cond.fieldLink "CitingLetters$Ledger" 21 C (T 3).2.1 (T 3).2.2.1 ∈ jw ∧ (∀ k, k < N → parseFieldDescriptor (T k).2.2.1 = some (ty0 k)) ∧ (∀ a, a < N → ∀ b, b < N → a ≠ b → (T a).2.1 ≠ (T b).2.1) ∧ (T 3).2.2.2 = true ∧ (T 3).1 = "CitingLetters$Ledger" ∧ parseFieldDescriptor (T 3).2.2.1 = some (.array .int) := ⟨"CitingLetters$Ledger", jTL, 17, jtL, rfl, jt_1 189 rfl rfl, jtL_ok, jnL_ok, rfl, rfl, by decide +kernel⟩
theorem flc_L_24 : jFl "CitingLetters$Ledger" 24 4 4 := ⟨"CitingLetters$Ledger", jTL, 17, rfl, by decide, rfl, iw_L, rfl, Or.inl (jt_1 191 rfl rfl)⟩
theorem flp_L_24 : ∃ (C : String) (T : u_T) (N : Nat) (ty0 : Nat → FieldType), jcl[4]? = some (C, T, N) ∧ Cond.fieldLink "CitingLetters$Ledger" 24 C (T 4).2.1 (T 4).2.2.1 ∈ jw ∧ (∀ k, k < N → parseFieldDescriptor (T k).2.2.1 = some (ty0 k)) ∧ (∀ a, a < N → ∀ b, b < N → a ≠ b → (T a).2.1 ≠ (T b).2.1) ∧ (T 4).2.2.2 = true ∧ (T 4).1 = "CitingLetters$Ledger" ∧ parseFieldDescriptor (T 4).2.2.1 = some (.array .int) := ⟨"CitingLetters$Ledger", jTL, 17, jtL, rfl, jt_1 191 rfl rfl, jtL_ok, jnL_ok, rfl, rfl, by decide +kernel⟩
theorem flc_L_27 : jFl "CitingLetters$Ledger" 27 4 5 := ⟨"CitingLetters$Ledger", jTL, 17, rfl, by decide, rfl, iw_L, rfl, Or.inl (jt_1 193 rfl rfl)⟩
theorem flp_L_27 : ∃ (C : String) (T : u_T) (N : Nat) (ty0 : Nat → FieldType), jcl[4]? = some (C, T, N) ∧ Cond.fieldLink "CitingLetters$Ledger" 27 C (T 5).2.1 (T 5).2.2.1 ∈ jw ∧ (∀ k, k < N → parseFieldDescriptor (T k).2.2.1 = some (ty0 k)) ∧ (∀ a, a < N → ∀ b, b < N → a ≠ b → (T a).2.1 ≠ (T b).2.1) ∧ (T 5).2.2.2 = true ∧ (T 5).1 = "CitingLetters$Ledger" ∧ parseFieldDescriptor (T 5).2.2.1 = some (.array .int) := ⟨"CitingLetters$Ledger", jTL, 17, jtL, rfl, jt_1 193 rfl rfl, jtL_ok, jnL_ok, rfl, rfl, by decide +kernel⟩
theorem flc_L_30 : jFl "CitingLetters$Ledger" 30 4 6 := ⟨"CitingLetters$Ledger", jTL, 17, rfl, by decide, rfl, iw_L, rfl, Or.inl (jt_1 195 rfl rfl)⟩
theorem flp_L_30 : ∃ (C : String) (T : u_T) (N : Nat) (ty0 : Nat → FieldType), jcl[4]? = some (C, T, N) ∧ Cond.fieldLink "CitingLetters$Ledger" 30 C (T 6).2.1 (T 6).2.2.1 ∈ jw ∧ (∀ k, k < N → parseFieldDescriptor (T k).2.2.1 = some (ty0 k)) ∧ (∀ a, a < N → ∀ b, b < N → a ≠ b → (T a).2.1 ≠ (T b).2.1) ∧ (T 6).2.2.2 = true ∧ (T 6).1 = "CitingLetters$Ledger" ∧ parseFieldDescriptor (T 6).2.2.1 = some (.array .int) := ⟨"CitingLetters$Ledger", jTL, 17, jtL, rfl, jt_1 195 rfl rfl, jtL_ok, jnL_ok, rfl, rfl, by decide +kernel⟩
theorem flc_L_33 : jFl "CitingLetters$Ledger" 33 4 7 := ⟨"CitingLetters$Ledger", jTL, 17, rfl, by decide, rfl, iw_L, rfl, Or.inl (jt_1 196 rfl rfl)⟩
theorem flp_L_33 : ∃ (C : String) (T : u_T) (N : Nat) (ty0 : Nat → FieldType), jcl[4]? = some (C, T, N) ∧ Cond.fieldLink "CitingLetters$Ledger" 33 C (T 7).2.1 (T 7).2.2.1 ∈ jw ∧ (∀ k, k < N → parseFieldDescriptor (T k).2.2.1 = some (ty0 k)) ∧ (∀ a, a < N → ∀ b, b < N → a ≠ b → (T a).2.1 ≠ (T b).2.1) ∧ (T 7).2.2.2 = true ∧ (T 7).1 = "CitingLetters$Ledger" ∧ parseFieldDescriptor (T 7).2.2.1 = some (.array .int) := ⟨"CitingLetters$Ledger", jTL, 17, jtL, rfl, jt_1 196 rfl rfl, jtL_ok, jnL_ok, rfl, rfl, by decide +kernel⟩
theorem flc_L_36 : jFl "CitingLetters$Ledger" 36 4 8 := ⟨"CitingLetters$Ledger", jTL, 17, rfl, by decide, rfl, iw_L, rfl, Or.inl (jt_1 200 rfl rfl)⟩
theorem flp_L_36 : ∃ (C : String) (T : u_T) (N : Nat) (ty0 : Nat → FieldType), jcl[4]? = some (C, T, N) ∧ Cond.fieldLink "CitingLetters$Ledger" 36 C (T 8).2.1 (T 8).2.2.1 ∈ jw ∧ (∀ k, k < N → parseFieldDescriptor (T k).2.2.1 = some (ty0 k)) ∧ (∀ a, a < N → ∀ b, b < N → a ≠ b → (T a).2.1 ≠ (T b).2.1) ∧ (T 8).2.2.2 = true ∧ (T 8).1 = "CitingLetters$Ledger" ∧ parseFieldDescriptor (T 8).2.2.1 = some (.array .int) := ⟨"CitingLetters$Ledger", jTL, 17, jtL, rfl, jt_1 200 rfl rfl, jtL_ok, jnL_ok, rfl, rfl, by decide +kernel⟩
theorem flc_L_39 : jFl "CitingLetters$Ledger" 39 4 9 := ⟨"CitingLetters$Ledger", jTL, 17, rfl, by decide, rfl, iw_L, rfl, Or.inl (jt_1 201 rfl rfl)⟩
theorem flp_L_39 : ∃ (C : String) (T : u_T) (N : Nat) (ty0 : Nat → FieldType), jcl[4]? = some (C, T, N) ∧ Cond.fieldLink "CitingLetters$Ledger" 39 C (T 9).2.1 (T 9).2.2.1 ∈ jw ∧ (∀ k, k < N → parseFieldDescriptor (T k).2.2.1 = some (ty0 k)) ∧ (∀ a, a < N → ∀ b, b < N → a ≠ b → (T a).2.1 ≠ (T b).2.1) ∧ (T 9).2.2.2 = true ∧ (T 9).1 = "CitingLetters$Ledger" ∧ parseFieldDescriptor (T 9).2.2.1 = some (.array .int) := ⟨"CitingLetters$Ledger", jTL, 17, jtL, rfl, jt_1 201 rfl rfl, jtL_ok, jnL_ok, rfl, rfl, by decide +kernel⟩
theorem flc_L_42 : jFl "CitingLetters$Ledger" 42 4 10 := ⟨"CitingLetters$Ledger", jTL, 17, rfl, by decide, rfl, iw_L, rfl, Or.inl (jt_1 203 rfl rfl)⟩
theorem flp_L_42 : ∃ (C : String) (T : u_T) (N : Nat) (ty0 : Nat → FieldType), jcl[4]? = some (C, T, N) ∧ Cond.fieldLink "CitingLetters$Ledger" 42 C (T 10).2.1 (T 10).2.2.1 ∈ jw ∧ (∀ k, k < N → parseFieldDescriptor (T k).2.2.1 = some (ty0 k)) ∧ (∀ a, a < N → ∀ b, b < N → a ≠ b → (T a).2.1 ≠ (T b).2.1) ∧ (T 10).2.2.2 = true ∧ (T 10).1 = "CitingLetters$Ledger" ∧ parseFieldDescriptor (T 10).2.2.1 = some (.array .int) := ⟨"CitingLetters$Ledger", jTL, 17, jtL, rfl, jt_1 203 rfl rfl, jtL_ok, jnL_ok, rfl, rfl, by decide +kernel⟩
theorem flc_L_45 : jFl "CitingLetters$Ledger" 45 4 11 := ⟨"CitingLetters$Ledger", jTL, 17, rfl, by decide, rfl, iw_L, rfl, Or.inl (jt_1 204 rfl rfl)⟩
theorem flp_L_45 : ∃ (C : String) (T : u_T) (N : Nat) (ty0 : Nat → FieldType), jcl[4]? = some (C, T, N) ∧ Cond.fieldLink "CitingLetters$Ledger" 45 C (T 11).2.1 (T 11).2.2.1 ∈ jw ∧ (∀ k, k < N → parseFieldDescriptor (T k).2.2.1 = some (ty0 k)) ∧ (∀ a, a < N → ∀ b, b < N → a ≠ b → (T a).2.1 ≠ (T b).2.1) ∧ (T 11).2.2.2 = true ∧ (T 11).1 = "CitingLetters$Ledger" ∧ parseFieldDescriptor (T 11).2.2.1 = some (.array .int) := ⟨"CitingLetters$Ledger", jTL, 17, jtL, rfl, jt_1 204 rfl rfl, jtL_ok, jnL_ok, rfl, rfl, by decide +kernel⟩
theorem flc_L_48 : jFl "CitingLetters$Ledger" 48 4 12 := ⟨"CitingLetters$Ledger", jTL, 17, rfl, by decide, rfl, iw_L, rfl, Or.inl (jt_1 206 rfl rfl)⟩
theorem flp_L_48 : ∃ (C : String) (T : u_T) (N : Nat) (ty0 : Nat → FieldType), jcl[4]? = some (C, T, N) ∧ Cond.fieldLink "CitingLetters$Ledger" 48 C (T 12).2.1 (T 12).2.2.1 ∈ jw ∧ (∀ k, k < N → parseFieldDescriptor (T k).2.2.1 = some (ty0 k)) ∧ (∀ a, a < N → ∀ b, b < N → a ≠ b → (T a).2.1 ≠ (T b).2.1) ∧ (T 12).2.2.2 = true ∧ (T 12).1 = "CitingLetters$Ledger" ∧ parseFieldDescriptor (T 12).2.2.1 = some (.array .int) := ⟨"CitingLetters$Ledger", jTL, 17, jtL, rfl, jt_1 206 rfl rfl, jtL_ok, jnL_ok, rfl, rfl, by decide +kernel⟩
theorem flc_L_51 : jFl "CitingLetters$Ledger" 51 4 13 := ⟨"CitingLetters$Ledger", jTL, 17, rfl, by decide, rfl, iw_L, rfl, Or.inl (jt_1 208 rfl rfl)⟩
theorem flp_L_51 : ∃ (C : String) (T : u_T) (N : Nat) (ty0 : Nat → FieldType), jcl[4]? = some (C, T, N) ∧ Cond.fieldLink "CitingLetters$Ledger" 51 C (T 13).2.1 (T 13).2.2.1 ∈ jw ∧ (∀ k, k < N → parseFieldDescriptor (T k).2.2.1 = some (ty0 k)) ∧ (∀ a, a < N → ∀ b, b < N → a ≠ b → (T a).2.1 ≠ (T b).2.1) ∧ (T 13).2.2.2 = true ∧ (T 13).1 = "CitingLetters$Ledger" ∧ parseFieldDescriptor (T 13).2.2.1 = some (.array .int) := ⟨"CitingLetters$Ledger", jTL, 17, jtL, rfl, jt_1 208 rfl rfl, jtL_ok, jnL_ok, rfl, rfl, by decide +kernel⟩
theorem flc_L_54 : jFl "CitingLetters$Ledger" 54 4 14 := ⟨"CitingLetters$Ledger", jTL, 17, rfl, by decide, rfl, iw_L, rfl, Or.inl (jt_1 210 rfl rfl)⟩
theorem flp_L_54 : ∃ (C : String) (T : u_T) (N : Nat) (ty0 : Nat → FieldType), jcl[4]? = some (C, T, N) ∧ Cond.fieldLink "CitingLetters$Ledger" 54 C (T 14).2.1 (T 14).2.2.1 ∈ jw ∧ (∀ k, k < N → parseFieldDescriptor (T k).2.2.1 = some (ty0 k)) ∧ (∀ a, a < N → ∀ b, b < N → a ≠ b → (T a).2.1 ≠ (T b).2.1) ∧ (T 14).2.2.2 = true ∧ (T 14).1 = "CitingLetters$Ledger" ∧ parseFieldDescriptor (T 14).2.2.1 = some (.array .int) := ⟨"CitingLetters$Ledger", jTL, 17, jtL, rfl, jt_1 210 rfl rfl, jtL_ok, jnL_ok, rfl, rfl, by decide +kernel⟩
theorem flc_C_38 : jFl "CitingLetters" 38 0 7 := ⟨"CitingLetters", jTC, 13, rfl, by decide, rfl, iw_C, rfl, Or.inl (jt_2 169 rfl rfl)⟩
theorem flp_C_38 : ∃ (C : String) (T : u_T) (N : Nat) (ty0 : Nat → FieldType), jcl[0]? = some (C, T, N) ∧ Cond.fieldLink "CitingLetters" 38 C (T 7).2.1 (T 7).2.2.1 ∈ jw ∧ (∀ k, k < N → parseFieldDescriptor (T k).2.2.1 = some (ty0 k)) ∧ (∀ a, a < N → ∀ b, b < N → a ≠ b → (T a).2.1 ≠ (T b).2.1) ∧ (T 7).2.2.2 = true ∧ (T 7).1 = "CitingLetters" ∧ parseFieldDescriptor (T 7).2.2.1 = some (.object "CitingLetters$Ledger") := ⟨"CitingLetters", jTC, 13, jtC, rfl, jt_2 169 rfl rfl, jtC_ok, jnC_ok, rfl, rfl, by decide +kernel⟩
theorem wnew_C_42 : Cond.classLink "CitingLetters" 42 "CitingLetters$Post" ∈ jw ∧ Cond.instantiable "CitingLetters$Post" 11 ∈ jw ∧ Cond.initialized "CitingLetters$Post" ∈ jw := ⟨jt_2 12 rfl rfl, jt_2 13 rfl rfl, jt_1 8 rfl rfl⟩
theorem lkc_C_44 : jLk "CitingLetters" 44 ⟨"CitingLetters$Post", "<init>", "()V"⟩ := Or.inl (jt_2 14 rfl rfl)
abbrev Y_P_ini : jY := (⟨"CitingLetters$Post", "<init>", "()V"⟩, prog_9_method_1_code, 3, none, 1, 19, 834)
theorem mi_P_ini : jMi ⟨"CitingLetters$Post", "<init>", "()V"⟩ prog_9_method_1_code 3 none 0 := ⟨jt_2 16 rfl rfl, jt_1 8 rfl rfl, ⟨by decide +kernel, by decide +kernel, by decide +kernel⟩, by decide, by decide +kernel⟩
theorem zi_P_ini : jret Y_P_ini = none ∧ (jy Y_P_ini).name = "<init>" ∧ Cond.instanceMethod (jy Y_P_ini) ∈ jw := ⟨rfl, rfl, jt_2 15 rfl rfl⟩
theorem wOI_P : Cond.methodLink "CitingLetters$Post" 3 Lib.objectInit ∈ jw ∧ Cond.instanceMethod Lib.objectInit ∈ jw ∧ Cond.code Lib.objectInit ⟨#[0xb1]⟩ 1 none ∈ jw := ⟨jt_2 17 rfl rfl, jt_1 33 rfl rfl, jt_1 34 rfl rfl⟩
theorem flc_P_11 : jFl "CitingLetters$Post" 11 5 0 := ⟨"CitingLetters$Post", jTP, 11, rfl, by decide, rfl, iw_P, rfl, Or.inl (jt_2 20 rfl rfl)⟩
theorem flp_P_11 : ∃ (C : String) (T : u_T) (N : Nat) (ty0 : Nat → FieldType), jcl[5]? = some (C, T, N) ∧ Cond.fieldLink "CitingLetters$Post" 11 C (T 0).2.1 (T 0).2.2.1 ∈ jw ∧ (∀ k, k < N → parseFieldDescriptor (T k).2.2.1 = some (ty0 k)) ∧ (∀ a, a < N → ∀ b, b < N → a ≠ b → (T a).2.1 ≠ (T b).2.1) ∧ (T 0).2.2.2 = true ∧ (T 0).1 = "CitingLetters$Post" ∧ parseFieldDescriptor (T 0).2.2.1 = some (.array (.array .int)) := ⟨"CitingLetters$Post", jTP, 11, jtP, rfl, jt_2 20 rfl rfl, jtP_ok, jnP_ok, rfl, rfl, by decide +kernel⟩
theorem flc_P_16 : jFl "CitingLetters$Post" 16 5 1 := ⟨"CitingLetters$Post", jTP, 11, rfl, by decide, rfl, iw_P, rfl, Or.inl (jt_2 21 rfl rfl)⟩
theorem flp_P_16 : ∃ (C : String) (T : u_T) (N : Nat) (ty0 : Nat → FieldType), jcl[5]? = some (C, T, N) ∧ Cond.fieldLink "CitingLetters$Post" 16 C (T 1).2.1 (T 1).2.2.1 ∈ jw ∧ (∀ k, k < N → parseFieldDescriptor (T k).2.2.1 = some (ty0 k)) ∧ (∀ a, a < N → ∀ b, b < N → a ≠ b → (T a).2.1 ≠ (T b).2.1) ∧ (T 1).2.2.2 = true ∧ (T 1).1 = "CitingLetters$Post" ∧ parseFieldDescriptor (T 1).2.2.1 = some (.array (.array .int)) := ⟨"CitingLetters$Post", jTP, 11, jtP, rfl, jt_2 21 rfl rfl, jtP_ok, jnP_ok, rfl, rfl, by decide +kernel⟩
theorem flc_P_19 : jFl "CitingLetters$Post" 19 5 5 := ⟨"CitingLetters$Post", jTP, 11, rfl, by decide, rfl, iw_P, rfl, Or.inl (jt_2 26 rfl rfl)⟩
theorem flp_P_19 : ∃ (C : String) (T : u_T) (N : Nat) (ty0 : Nat → FieldType), jcl[5]? = some (C, T, N) ∧ Cond.fieldLink "CitingLetters$Post" 19 C (T 5).2.1 (T 5).2.2.1 ∈ jw ∧ (∀ k, k < N → parseFieldDescriptor (T k).2.2.1 = some (ty0 k)) ∧ (∀ a, a < N → ∀ b, b < N → a ≠ b → (T a).2.1 ≠ (T b).2.1) ∧ (T 5).2.2.2 = true ∧ (T 5).1 = "CitingLetters$Post" ∧ parseFieldDescriptor (T 5).2.2.1 = some (.array .int) := ⟨"CitingLetters$Post", jTP, 11, jtP, rfl, jt_2 26 rfl rfl, jtP_ok, jnP_ok, rfl, rfl, by decide +kernel⟩
theorem flc_P_23 : jFl "CitingLetters$Post" 23 5 6 := ⟨"CitingLetters$Post", jTP, 11, rfl, by decide, rfl, iw_P, rfl, Or.inl (jt_2 28 rfl rfl)⟩
theorem flp_P_23 : ∃ (C : String) (T : u_T) (N : Nat) (ty0 : Nat → FieldType), jcl[5]? = some (C, T, N) ∧ Cond.fieldLink "CitingLetters$Post" 23 C (T 6).2.1 (T 6).2.2.1 ∈ jw ∧ (∀ k, k < N → parseFieldDescriptor (T k).2.2.1 = some (ty0 k)) ∧ (∀ a, a < N → ∀ b, b < N → a ≠ b → (T a).2.1 ≠ (T b).2.1) ∧ (T 6).2.2.2 = true ∧ (T 6).1 = "CitingLetters$Post" ∧ parseFieldDescriptor (T 6).2.2.1 = some (.array .int) := ⟨"CitingLetters$Post", jTP, 11, jtP, rfl, jt_2 28 rfl rfl, jtP_ok, jnP_ok, rfl, rfl, by decide +kernel⟩
theorem flc_P_26 : jFl "CitingLetters$Post" 26 5 7 := ⟨"CitingLetters$Post", jTP, 11, rfl, by decide, rfl, iw_P, rfl, Or.inl (jt_2 29 rfl rfl)⟩
theorem flp_P_26 : ∃ (C : String) (T : u_T) (N : Nat) (ty0 : Nat → FieldType), jcl[5]? = some (C, T, N) ∧ Cond.fieldLink "CitingLetters$Post" 26 C (T 7).2.1 (T 7).2.2.1 ∈ jw ∧ (∀ k, k < N → parseFieldDescriptor (T k).2.2.1 = some (ty0 k)) ∧ (∀ a, a < N → ∀ b, b < N → a ≠ b → (T a).2.1 ≠ (T b).2.1) ∧ (T 7).2.2.2 = true ∧ (T 7).1 = "CitingLetters$Post" ∧ parseFieldDescriptor (T 7).2.2.1 = some (.array .int) := ⟨"CitingLetters$Post", jTP, 11, jtP, rfl, jt_2 29 rfl rfl, jtP_ok, jnP_ok, rfl, rfl, by decide +kernel⟩
theorem flc_P_29 : jFl "CitingLetters$Post" 29 5 8 := ⟨"CitingLetters$Post", jTP, 11, rfl, by decide, rfl, iw_P, rfl, Or.inl (jt_2 31 rfl rfl)⟩
theorem flp_P_29 : ∃ (C : String) (T : u_T) (N : Nat) (ty0 : Nat → FieldType), jcl[5]? = some (C, T, N) ∧ Cond.fieldLink "CitingLetters$Post" 29 C (T 8).2.1 (T 8).2.2.1 ∈ jw ∧ (∀ k, k < N → parseFieldDescriptor (T k).2.2.1 = some (ty0 k)) ∧ (∀ a, a < N → ∀ b, b < N → a ≠ b → (T a).2.1 ≠ (T b).2.1) ∧ (T 8).2.2.2 = true ∧ (T 8).1 = "CitingLetters$Post" ∧ parseFieldDescriptor (T 8).2.2.1 = some (.array .int) := ⟨"CitingLetters$Post", jTP, 11, jtP, rfl, jt_2 31 rfl rfl, jtP_ok, jnP_ok, rfl, rfl, by decide +kernel⟩
theorem flc_P_32 : jFl "CitingLetters$Post" 32 5 9 := ⟨"CitingLetters$Post", jTP, 11, rfl, by decide, rfl, iw_P, rfl, Or.inl (jt_2 33 rfl rfl)⟩
theorem flp_P_32 : ∃ (C : String) (T : u_T) (N : Nat) (ty0 : Nat → FieldType), jcl[5]? = some (C, T, N) ∧ Cond.fieldLink "CitingLetters$Post" 32 C (T 9).2.1 (T 9).2.2.1 ∈ jw ∧ (∀ k, k < N → parseFieldDescriptor (T k).2.2.1 = some (ty0 k)) ∧ (∀ a, a < N → ∀ b, b < N → a ≠ b → (T a).2.1 ≠ (T b).2.1) ∧ (T 9).2.2.2 = true ∧ (T 9).1 = "CitingLetters$Post" ∧ parseFieldDescriptor (T 9).2.2.1 = some (.array .int) := ⟨"CitingLetters$Post", jTP, 11, jtP, rfl, jt_2 33 rfl rfl, jtP_ok, jnP_ok, rfl, rfl, by decide +kernel⟩
theorem flc_C_45 : jFl "CitingLetters" 45 0 8 := ⟨"CitingLetters", jTC, 13, rfl, by decide, rfl, iw_C, rfl, Or.inl (jt_2 170 rfl rfl)⟩
theorem flp_C_45 : ∃ (C : String) (T : u_T) (N : Nat) (ty0 : Nat → FieldType), jcl[0]? = some (C, T, N) ∧ Cond.fieldLink "CitingLetters" 45 C (T 8).2.1 (T 8).2.2.1 ∈ jw ∧ (∀ k, k < N → parseFieldDescriptor (T k).2.2.1 = some (ty0 k)) ∧ (∀ a, a < N → ∀ b, b < N → a ≠ b → (T a).2.1 ≠ (T b).2.1) ∧ (T 8).2.2.2 = true ∧ (T 8).1 = "CitingLetters" ∧ parseFieldDescriptor (T 8).2.2.1 = some (.object "CitingLetters$Post") := ⟨"CitingLetters", jTC, 13, jtC, rfl, jt_2 170 rfl rfl, jtC_ok, jnC_ok, rfl, rfl, by decide +kernel⟩
theorem wnew_C_49 : Cond.classLink "CitingLetters" 49 "CitingLetters$Desks" ∈ jw ∧ Cond.instantiable "CitingLetters$Desks" 5 ∈ jw ∧ Cond.initialized "CitingLetters$Desks" ∈ jw := ⟨jt_2 60 rfl rfl, jt_2 61 rfl rfl, jt_1 9 rfl rfl⟩
theorem lkc_C_51 : jLk "CitingLetters" 51 ⟨"CitingLetters$Desks", "<init>", "()V"⟩ := Or.inr ⟨"CitingLetters", jn_2 62 rfl rfl⟩
abbrev Y_D_ini : jY := (⟨"CitingLetters$Desks", "<init>", "()V"⟩, prog_4_method_1_code, 1, none, 1, 17, 390)
theorem mi_D_ini : jMi ⟨"CitingLetters$Desks", "<init>", "()V"⟩ prog_4_method_1_code 1 none 0 := ⟨jt_2 64 rfl rfl, jt_1 9 rfl rfl, ⟨by decide +kernel, by decide +kernel, by decide +kernel⟩, by decide, by decide +kernel⟩
theorem zi_D_ini : jret Y_D_ini = none ∧ (jy Y_D_ini).name = "<init>" ∧ Cond.instanceMethod (jy Y_D_ini) ∈ jw := ⟨rfl, rfl, jt_2 63 rfl rfl⟩
theorem wOI_D : Cond.methodLink "CitingLetters$Desks" 3 Lib.objectInit ∈ jw ∧ Cond.instanceMethod Lib.objectInit ∈ jw ∧ Cond.code Lib.objectInit ⟨#[0xb1]⟩ 1 none ∈ jw := ⟨jt_2 65 rfl rfl, jt_1 33 rfl rfl, jt_1 34 rfl rfl⟩
theorem flc_D_11 : jFl "CitingLetters$Desks" 11 6 0 := ⟨"CitingLetters$Desks", jTD, 5, rfl, by decide, rfl, iw_D, rfl, Or.inl (jt_2 67 rfl rfl)⟩
theorem flp_D_11 : ∃ (C : String) (T : u_T) (N : Nat) (ty0 : Nat → FieldType), jcl[6]? = some (C, T, N) ∧ Cond.fieldLink "CitingLetters$Desks" 11 C (T 0).2.1 (T 0).2.2.1 ∈ jw ∧ (∀ k, k < N → parseFieldDescriptor (T k).2.2.1 = some (ty0 k)) ∧ (∀ a, a < N → ∀ b, b < N → a ≠ b → (T a).2.1 ≠ (T b).2.1) ∧ (T 0).2.2.2 = true ∧ (T 0).1 = "CitingLetters$Desks" ∧ parseFieldDescriptor (T 0).2.2.1 = some (.array (.array .int)) := ⟨"CitingLetters$Desks", jTD, 5, jtD, rfl, jt_2 67 rfl rfl, jtD_ok, jnD_ok, rfl, rfl, by decide +kernel⟩
theorem flc_D_16 : jFl "CitingLetters$Desks" 16 6 1 := ⟨"CitingLetters$Desks", jTD, 5, rfl, by decide, rfl, iw_D, rfl, Or.inl (jt_2 68 rfl rfl)⟩
theorem flp_D_16 : ∃ (C : String) (T : u_T) (N : Nat) (ty0 : Nat → FieldType), jcl[6]? = some (C, T, N) ∧ Cond.fieldLink "CitingLetters$Desks" 16 C (T 1).2.1 (T 1).2.2.1 ∈ jw ∧ (∀ k, k < N → parseFieldDescriptor (T k).2.2.1 = some (ty0 k)) ∧ (∀ a, a < N → ∀ b, b < N → a ≠ b → (T a).2.1 ≠ (T b).2.1) ∧ (T 1).2.2.2 = true ∧ (T 1).1 = "CitingLetters$Desks" ∧ parseFieldDescriptor (T 1).2.2.1 = some (.array .int) := ⟨"CitingLetters$Desks", jTD, 5, jtD, rfl, jt_2 68 rfl rfl, jtD_ok, jnD_ok, rfl, rfl, by decide +kernel⟩
theorem flc_D_20 : jFl "CitingLetters$Desks" 20 6 2 := ⟨"CitingLetters$Desks", jTD, 5, rfl, by decide, rfl, iw_D, rfl, Or.inl (jt_2 70 rfl rfl)⟩
theorem flp_D_20 : ∃ (C : String) (T : u_T) (N : Nat) (ty0 : Nat → FieldType), jcl[6]? = some (C, T, N) ∧ Cond.fieldLink "CitingLetters$Desks" 20 C (T 2).2.1 (T 2).2.2.1 ∈ jw ∧ (∀ k, k < N → parseFieldDescriptor (T k).2.2.1 = some (ty0 k)) ∧ (∀ a, a < N → ∀ b, b < N → a ≠ b → (T a).2.1 ≠ (T b).2.1) ∧ (T 2).2.2.2 = true ∧ (T 2).1 = "CitingLetters$Desks" ∧ parseFieldDescriptor (T 2).2.2.1 = some (.array .int) := ⟨"CitingLetters$Desks", jTD, 5, jtD, rfl, jt_2 70 rfl rfl, jtD_ok, jnD_ok, rfl, rfl, by decide +kernel⟩
theorem flc_D_23 : jFl "CitingLetters$Desks" 23 6 3 := ⟨"CitingLetters$Desks", jTD, 5, rfl, by decide, rfl, iw_D, rfl, Or.inl (jt_2 72 rfl rfl)⟩
theorem flp_D_23 : ∃ (C : String) (T : u_T) (N : Nat) (ty0 : Nat → FieldType), jcl[6]? = some (C, T, N) ∧ Cond.fieldLink "CitingLetters$Desks" 23 C (T 3).2.1 (T 3).2.2.1 ∈ jw ∧ (∀ k, k < N → parseFieldDescriptor (T k).2.2.1 = some (ty0 k)) ∧ (∀ a, a < N → ∀ b, b < N → a ≠ b → (T a).2.1 ≠ (T b).2.1) ∧ (T 3).2.2.2 = true ∧ (T 3).1 = "CitingLetters$Desks" ∧ parseFieldDescriptor (T 3).2.2.1 = some (.array .int) := ⟨"CitingLetters$Desks", jTD, 5, jtD, rfl, jt_2 72 rfl rfl, jtD_ok, jnD_ok, rfl, rfl, by decide +kernel⟩
theorem flc_D_26 : jFl "CitingLetters$Desks" 26 6 4 := ⟨"CitingLetters$Desks", jTD, 5, rfl, by decide, rfl, iw_D, rfl, Or.inl (jt_2 74 rfl rfl)⟩
theorem flp_D_26 : ∃ (C : String) (T : u_T) (N : Nat) (ty0 : Nat → FieldType), jcl[6]? = some (C, T, N) ∧ Cond.fieldLink "CitingLetters$Desks" 26 C (T 4).2.1 (T 4).2.2.1 ∈ jw ∧ (∀ k, k < N → parseFieldDescriptor (T k).2.2.1 = some (ty0 k)) ∧ (∀ a, a < N → ∀ b, b < N → a ≠ b → (T a).2.1 ≠ (T b).2.1) ∧ (T 4).2.2.2 = true ∧ (T 4).1 = "CitingLetters$Desks" ∧ parseFieldDescriptor (T 4).2.2.1 = some (.array (.array .int)) := ⟨"CitingLetters$Desks", jTD, 5, jtD, rfl, jt_2 74 rfl rfl, jtD_ok, jnD_ok, rfl, rfl, by decide +kernel⟩
theorem flc_C_52 : jFl "CitingLetters" 52 0 9 := ⟨"CitingLetters", jTC, 13, rfl, by decide, rfl, iw_C, rfl, Or.inl (jt_2 171 rfl rfl)⟩
theorem flp_C_52 : ∃ (C : String) (T : u_T) (N : Nat) (ty0 : Nat → FieldType), jcl[0]? = some (C, T, N) ∧ Cond.fieldLink "CitingLetters" 52 C (T 9).2.1 (T 9).2.2.1 ∈ jw ∧ (∀ k, k < N → parseFieldDescriptor (T k).2.2.1 = some (ty0 k)) ∧ (∀ a, a < N → ∀ b, b < N → a ≠ b → (T a).2.1 ≠ (T b).2.1) ∧ (T 9).2.2.2 = true ∧ (T 9).1 = "CitingLetters" ∧ parseFieldDescriptor (T 9).2.2.1 = some (.object "CitingLetters$Desks") := ⟨"CitingLetters", jTC, 13, jtC, rfl, jt_2 171 rfl rfl, jtC_ok, jnC_ok, rfl, rfl, by decide +kernel⟩
theorem wnew_C_56 : Cond.classLink "CitingLetters" 56 "CitingLetters$Doubts" ∈ jw ∧ Cond.instantiable "CitingLetters$Doubts" 2 ∈ jw ∧ Cond.initialized "CitingLetters$Doubts" ∈ jw := ⟨jt_2 87 rfl rfl, jt_2 88 rfl rfl, jt_1 10 rfl rfl⟩
theorem lkc_C_58 : jLk "CitingLetters" 58 ⟨"CitingLetters$Doubts", "<init>", "(LCitingLetters$Ledger;LCitingLetters$Post;)V"⟩ := Or.inl (jt_2 89 rfl rfl)
abbrev Y_U_ini : jY := (⟨"CitingLetters$Doubts", "<init>", "(LCitingLetters$Ledger;LCitingLetters$Post;)V"⟩, prog_5_method_1_code, 3, none, 1, 0, 0)
theorem mi_U_ini : jMi ⟨"CitingLetters$Doubts", "<init>", "(LCitingLetters$Ledger;LCitingLetters$Post;)V"⟩ prog_5_method_1_code 3 none 2 := ⟨jt_2 91 rfl rfl, jt_1 10 rfl rfl, ⟨by decide +kernel, by decide +kernel, by decide +kernel⟩, by decide, by decide +kernel⟩
theorem zi_U_ini : jret Y_U_ini = none ∧ (jy Y_U_ini).name = "<init>" ∧ Cond.instanceMethod (jy Y_U_ini) ∈ jw := ⟨rfl, rfl, jt_2 90 rfl rfl⟩
theorem wOI_U : Cond.methodLink "CitingLetters$Doubts" 3 Lib.objectInit ∈ jw ∧ Cond.instanceMethod Lib.objectInit ∈ jw ∧ Cond.code Lib.objectInit ⟨#[0xb1]⟩ 1 none ∈ jw := ⟨jt_2 92 rfl rfl, jt_1 33 rfl rfl, jt_1 34 rfl rfl⟩
theorem flc_U_9 : jFl "CitingLetters$Doubts" 9 7 0 := ⟨"CitingLetters$Doubts", jTU, 2, rfl, by decide, rfl, iw_U, rfl, Or.inl (jt_2 93 rfl rfl)⟩
theorem flp_U_9 : ∃ (C : String) (T : u_T) (N : Nat) (ty0 : Nat → FieldType), jcl[7]? = some (C, T, N) ∧ Cond.fieldLink "CitingLetters$Doubts" 9 C (T 0).2.1 (T 0).2.2.1 ∈ jw ∧ (∀ k, k < N → parseFieldDescriptor (T k).2.2.1 = some (ty0 k)) ∧ (∀ a, a < N → ∀ b, b < N → a ≠ b → (T a).2.1 ≠ (T b).2.1) ∧ (T 0).2.2.2 = true ∧ (T 0).1 = "CitingLetters$Doubts" ∧ parseFieldDescriptor (T 0).2.2.1 = some (.object "CitingLetters$Ledger") := ⟨"CitingLetters$Doubts", jTU, 2, jtU, rfl, jt_2 93 rfl rfl, jtU_ok, jnU_ok, rfl, rfl, by decide +kernel⟩
theorem flc_U_15 : jFl "CitingLetters$Doubts" 15 7 1 := ⟨"CitingLetters$Doubts", jTU, 2, rfl, by decide, rfl, iw_U, rfl, Or.inl (jt_2 94 rfl rfl)⟩
theorem flp_U_15 : ∃ (C : String) (T : u_T) (N : Nat) (ty0 : Nat → FieldType), jcl[7]? = some (C, T, N) ∧ Cond.fieldLink "CitingLetters$Doubts" 15 C (T 1).2.1 (T 1).2.2.1 ∈ jw ∧ (∀ k, k < N → parseFieldDescriptor (T k).2.2.1 = some (ty0 k)) ∧ (∀ a, a < N → ∀ b, b < N → a ≠ b → (T a).2.1 ≠ (T b).2.1) ∧ (T 1).2.2.2 = true ∧ (T 1).1 = "CitingLetters$Doubts" ∧ parseFieldDescriptor (T 1).2.2.1 = some (.object "CitingLetters$Post") := ⟨"CitingLetters$Doubts", jTU, 2, jtU, rfl, jt_2 94 rfl rfl, jtU_ok, jnU_ok, rfl, rfl, by decide +kernel⟩
theorem flc_C_61 : jFl "CitingLetters" 61 0 10 := ⟨"CitingLetters", jTC, 13, rfl, by decide, rfl, iw_C, rfl, Or.inl (jt_2 172 rfl rfl)⟩
theorem flp_C_61 : ∃ (C : String) (T : u_T) (N : Nat) (ty0 : Nat → FieldType), jcl[0]? = some (C, T, N) ∧ Cond.fieldLink "CitingLetters" 61 C (T 10).2.1 (T 10).2.2.1 ∈ jw ∧ (∀ k, k < N → parseFieldDescriptor (T k).2.2.1 = some (ty0 k)) ∧ (∀ a, a < N → ∀ b, b < N → a ≠ b → (T a).2.1 ≠ (T b).2.1) ∧ (T 10).2.2.2 = true ∧ (T 10).1 = "CitingLetters" ∧ parseFieldDescriptor (T 10).2.2.1 = some (.object "CitingLetters$Doubts") := ⟨"CitingLetters", jTC, 13, jtC, rfl, jt_2 172 rfl rfl, jtC_ok, jnC_ok, rfl, rfl, by decide +kernel⟩
theorem wnew_C_65 : Cond.classLink "CitingLetters" 65 "CitingLetters$Chains" ∈ jw ∧ Cond.instantiable "CitingLetters$Chains" 5 ∈ jw ∧ Cond.initialized "CitingLetters$Chains" ∈ jw := ⟨jt_2 100 rfl rfl, jt_2 101 rfl rfl, jt_1 11 rfl rfl⟩
theorem lkc_C_67 : jLk "CitingLetters" 67 ⟨"CitingLetters$Chains", "<init>", "(LCitingLetters$Ledger;)V"⟩ := Or.inl (jt_2 102 rfl rfl)
abbrev Y_N_ini : jY := (⟨"CitingLetters$Chains", "<init>", "(LCitingLetters$Ledger;)V"⟩, prog_3_method_1_code, 2, none, 1, 4, 120)
theorem mi_N_ini : jMi ⟨"CitingLetters$Chains", "<init>", "(LCitingLetters$Ledger;)V"⟩ prog_3_method_1_code 2 none 1 := ⟨jt_2 104 rfl rfl, jt_1 11 rfl rfl, ⟨by decide +kernel, by decide +kernel, by decide +kernel⟩, by decide, by decide +kernel⟩
theorem zi_N_ini : jret Y_N_ini = none ∧ (jy Y_N_ini).name = "<init>" ∧ Cond.instanceMethod (jy Y_N_ini) ∈ jw := ⟨rfl, rfl, jt_2 103 rfl rfl⟩
theorem wOI_N : Cond.methodLink "CitingLetters$Chains" 3 Lib.objectInit ∈ jw ∧ Cond.instanceMethod Lib.objectInit ∈ jw ∧ Cond.code Lib.objectInit ⟨#[0xb1]⟩ 1 none ∈ jw := ⟨jt_2 105 rfl rfl, jt_1 33 rfl rfl, jt_1 34 rfl rfl⟩
theorem flc_N_9 : jFl "CitingLetters$Chains" 9 8 1 := ⟨"CitingLetters$Chains", jTN, 5, rfl, by decide, rfl, iw_N, rfl, Or.inl (jt_2 107 rfl rfl)⟩
theorem flp_N_9 : ∃ (C : String) (T : u_T) (N : Nat) (ty0 : Nat → FieldType), jcl[8]? = some (C, T, N) ∧ Cond.fieldLink "CitingLetters$Chains" 9 C (T 1).2.1 (T 1).2.2.1 ∈ jw ∧ (∀ k, k < N → parseFieldDescriptor (T k).2.2.1 = some (ty0 k)) ∧ (∀ a, a < N → ∀ b, b < N → a ≠ b → (T a).2.1 ≠ (T b).2.1) ∧ (T 1).2.2.2 = true ∧ (T 1).1 = "CitingLetters$Chains" ∧ parseFieldDescriptor (T 1).2.2.1 = some (.array .int) := ⟨"CitingLetters$Chains", jTN, 5, jtN, rfl, jt_2 107 rfl rfl, jtN_ok, jnN_ok, rfl, rfl, by decide +kernel⟩
theorem flc_N_15 : jFl "CitingLetters$Chains" 15 8 2 := ⟨"CitingLetters$Chains", jTN, 5, rfl, by decide, rfl, iw_N, rfl, Or.inl (jt_2 108 rfl rfl)⟩
theorem flp_N_15 : ∃ (C : String) (T : u_T) (N : Nat) (ty0 : Nat → FieldType), jcl[8]? = some (C, T, N) ∧ Cond.fieldLink "CitingLetters$Chains" 15 C (T 2).2.1 (T 2).2.2.1 ∈ jw ∧ (∀ k, k < N → parseFieldDescriptor (T k).2.2.1 = some (ty0 k)) ∧ (∀ a, a < N → ∀ b, b < N → a ≠ b → (T a).2.1 ≠ (T b).2.1) ∧ (T 2).2.2.2 = true ∧ (T 2).1 = "CitingLetters$Chains" ∧ parseFieldDescriptor (T 2).2.2.1 = some (.array .int) := ⟨"CitingLetters$Chains", jTN, 5, jtN, rfl, jt_2 108 rfl rfl, jtN_ok, jnN_ok, rfl, rfl, by decide +kernel⟩
theorem flc_N_18 : jFl "CitingLetters$Chains" 18 8 3 := ⟨"CitingLetters$Chains", jTN, 5, rfl, by decide, rfl, iw_N, rfl, Or.inl (jt_2 109 rfl rfl)⟩
theorem flp_N_18 : ∃ (C : String) (T : u_T) (N : Nat) (ty0 : Nat → FieldType), jcl[8]? = some (C, T, N) ∧ Cond.fieldLink "CitingLetters$Chains" 18 C (T 3).2.1 (T 3).2.2.1 ∈ jw ∧ (∀ k, k < N → parseFieldDescriptor (T k).2.2.1 = some (ty0 k)) ∧ (∀ a, a < N → ∀ b, b < N → a ≠ b → (T a).2.1 ≠ (T b).2.1) ∧ (T 3).2.2.2 = true ∧ (T 3).1 = "CitingLetters$Chains" ∧ parseFieldDescriptor (T 3).2.2.1 = some (.array .int) := ⟨"CitingLetters$Chains", jTN, 5, jtN, rfl, jt_2 109 rfl rfl, jtN_ok, jnN_ok, rfl, rfl, by decide +kernel⟩
theorem flc_N_21 : jFl "CitingLetters$Chains" 21 8 4 := ⟨"CitingLetters$Chains", jTN, 5, rfl, by decide, rfl, iw_N, rfl, Or.inl (jt_2 110 rfl rfl)⟩
theorem flp_N_21 : ∃ (C : String) (T : u_T) (N : Nat) (ty0 : Nat → FieldType), jcl[8]? = some (C, T, N) ∧ Cond.fieldLink "CitingLetters$Chains" 21 C (T 4).2.1 (T 4).2.2.1 ∈ jw ∧ (∀ k, k < N → parseFieldDescriptor (T k).2.2.1 = some (ty0 k)) ∧ (∀ a, a < N → ∀ b, b < N → a ≠ b → (T a).2.1 ≠ (T b).2.1) ∧ (T 4).2.2.2 = true ∧ (T 4).1 = "CitingLetters$Chains" ∧ parseFieldDescriptor (T 4).2.2.1 = some (.array .int) := ⟨"CitingLetters$Chains", jTN, 5, jtN, rfl, jt_2 110 rfl rfl, jtN_ok, jnN_ok, rfl, rfl, by decide +kernel⟩
theorem flc_N_24 : jFl "CitingLetters$Chains" 24 8 0 := ⟨"CitingLetters$Chains", jTN, 5, rfl, by decide, rfl, iw_N, rfl, Or.inl (jt_2 106 rfl rfl)⟩
theorem flp_N_24 : ∃ (C : String) (T : u_T) (N : Nat) (ty0 : Nat → FieldType), jcl[8]? = some (C, T, N) ∧ Cond.fieldLink "CitingLetters$Chains" 24 C (T 0).2.1 (T 0).2.2.1 ∈ jw ∧ (∀ k, k < N → parseFieldDescriptor (T k).2.2.1 = some (ty0 k)) ∧ (∀ a, a < N → ∀ b, b < N → a ≠ b → (T a).2.1 ≠ (T b).2.1) ∧ (T 0).2.2.2 = true ∧ (T 0).1 = "CitingLetters$Chains" ∧ parseFieldDescriptor (T 0).2.2.1 = some (.object "CitingLetters$Ledger") := ⟨"CitingLetters$Chains", jTN, 5, jtN, rfl, jt_2 106 rfl rfl, jtN_ok, jnN_ok, rfl, rfl, by decide +kernel⟩
theorem flc_C_70 : jFl "CitingLetters" 70 0 11 := ⟨"CitingLetters", jTC, 13, rfl, by decide, rfl, iw_C, rfl, Or.inl (jt_2 173 rfl rfl)⟩
theorem flp_C_70 : ∃ (C : String) (T : u_T) (N : Nat) (ty0 : Nat → FieldType), jcl[0]? = some (C, T, N) ∧ Cond.fieldLink "CitingLetters" 70 C (T 11).2.1 (T 11).2.2.1 ∈ jw ∧ (∀ k, k < N → parseFieldDescriptor (T k).2.2.1 = some (ty0 k)) ∧ (∀ a, a < N → ∀ b, b < N → a ≠ b → (T a).2.1 ≠ (T b).2.1) ∧ (T 11).2.2.2 = true ∧ (T 11).1 = "CitingLetters" ∧ parseFieldDescriptor (T 11).2.2.1 = some (.object "CitingLetters$Chains") := ⟨"CitingLetters", jTC, 13, jtC, rfl, jt_2 173 rfl rfl, jtC_ok, jnC_ok, rfl, rfl, by decide +kernel⟩
theorem wnew_C_74 : Cond.classLink "CitingLetters" 74 "CitingLetters$Orders" ∈ jw ∧ Cond.instantiable "CitingLetters$Orders" 10 ∈ jw ∧ Cond.initialized "CitingLetters$Orders" ∈ jw := ⟨jt_2 122 rfl rfl, jt_2 123 rfl rfl, jt_1 12 rfl rfl⟩
theorem lkc_C_76 : jLk "CitingLetters" 76 ⟨"CitingLetters$Orders", "<init>", "(LCitingLetters$Ledger;)V"⟩ := Or.inl (jt_2 124 rfl rfl)
abbrev Y_O_ini : jY := (⟨"CitingLetters$Orders", "<init>", "(LCitingLetters$Ledger;)V"⟩, prog_8_method_1_code, 2, none, 1, 19, 8396)
theorem mi_O_ini : jMi ⟨"CitingLetters$Orders", "<init>", "(LCitingLetters$Ledger;)V"⟩ prog_8_method_1_code 2 none 1 := ⟨jt_2 126 rfl rfl, jt_1 12 rfl rfl, ⟨by decide +kernel, by decide +kernel, by decide +kernel⟩, by decide, by decide +kernel⟩
theorem zi_O_ini : jret Y_O_ini = none ∧ (jy Y_O_ini).name = "<init>" ∧ Cond.instanceMethod (jy Y_O_ini) ∈ jw := ⟨rfl, rfl, jt_2 125 rfl rfl⟩
theorem wOI_O : Cond.methodLink "CitingLetters$Orders" 3 Lib.objectInit ∈ jw ∧ Cond.instanceMethod Lib.objectInit ∈ jw ∧ Cond.code Lib.objectInit ⟨#[0xb1]⟩ 1 none ∈ jw := ⟨jt_2 127 rfl rfl, jt_1 33 rfl rfl, jt_1 34 rfl rfl⟩
theorem flc_O_9 : jFl "CitingLetters$Orders" 9 9 1 := ⟨"CitingLetters$Orders", jTO, 10, rfl, by decide, rfl, iw_O, rfl, Or.inl (jt_2 130 rfl rfl)⟩
theorem flp_O_9 : ∃ (C : String) (T : u_T) (N : Nat) (ty0 : Nat → FieldType), jcl[9]? = some (C, T, N) ∧ Cond.fieldLink "CitingLetters$Orders" 9 C (T 1).2.1 (T 1).2.2.1 ∈ jw ∧ (∀ k, k < N → parseFieldDescriptor (T k).2.2.1 = some (ty0 k)) ∧ (∀ a, a < N → ∀ b, b < N → a ≠ b → (T a).2.1 ≠ (T b).2.1) ∧ (T 1).2.2.2 = true ∧ (T 1).1 = "CitingLetters$Orders" ∧ parseFieldDescriptor (T 1).2.2.1 = some (.array .int) := ⟨"CitingLetters$Orders", jTO, 10, jtO, rfl, jt_2 130 rfl rfl, jtO_ok, jnO_ok, rfl, rfl, by decide +kernel⟩
theorem flc_O_15 : jFl "CitingLetters$Orders" 15 9 2 := ⟨"CitingLetters$Orders", jTO, 10, rfl, by decide, rfl, iw_O, rfl, Or.inl (jt_2 131 rfl rfl)⟩
theorem flp_O_15 : ∃ (C : String) (T : u_T) (N : Nat) (ty0 : Nat → FieldType), jcl[9]? = some (C, T, N) ∧ Cond.fieldLink "CitingLetters$Orders" 15 C (T 2).2.1 (T 2).2.2.1 ∈ jw ∧ (∀ k, k < N → parseFieldDescriptor (T k).2.2.1 = some (ty0 k)) ∧ (∀ a, a < N → ∀ b, b < N → a ≠ b → (T a).2.1 ≠ (T b).2.1) ∧ (T 2).2.2.2 = true ∧ (T 2).1 = "CitingLetters$Orders" ∧ parseFieldDescriptor (T 2).2.2.1 = some (.array .int) := ⟨"CitingLetters$Orders", jTO, 10, jtO, rfl, jt_2 131 rfl rfl, jtO_ok, jnO_ok, rfl, rfl, by decide +kernel⟩
theorem flc_O_18 : jFl "CitingLetters$Orders" 18 9 4 := ⟨"CitingLetters$Orders", jTO, 10, rfl, by decide, rfl, iw_O, rfl, Or.inl (jt_2 134 rfl rfl)⟩
theorem flp_O_18 : ∃ (C : String) (T : u_T) (N : Nat) (ty0 : Nat → FieldType), jcl[9]? = some (C, T, N) ∧ Cond.fieldLink "CitingLetters$Orders" 18 C (T 4).2.1 (T 4).2.2.1 ∈ jw ∧ (∀ k, k < N → parseFieldDescriptor (T k).2.2.1 = some (ty0 k)) ∧ (∀ a, a < N → ∀ b, b < N → a ≠ b → (T a).2.1 ≠ (T b).2.1) ∧ (T 4).2.2.2 = true ∧ (T 4).1 = "CitingLetters$Orders" ∧ parseFieldDescriptor (T 4).2.2.1 = some (.array .int) := ⟨"CitingLetters$Orders", jTO, 10, jtO, rfl, jt_2 134 rfl rfl, jtO_ok, jnO_ok, rfl, rfl, by decide +kernel⟩
theorem flc_O_21 : jFl "CitingLetters$Orders" 21 9 5 := ⟨"CitingLetters$Orders", jTO, 10, rfl, by decide, rfl, iw_O, rfl, Or.inl (jt_2 135 rfl rfl)⟩
theorem flp_O_21 : ∃ (C : String) (T : u_T) (N : Nat) (ty0 : Nat → FieldType), jcl[9]? = some (C, T, N) ∧ Cond.fieldLink "CitingLetters$Orders" 21 C (T 5).2.1 (T 5).2.2.1 ∈ jw ∧ (∀ k, k < N → parseFieldDescriptor (T k).2.2.1 = some (ty0 k)) ∧ (∀ a, a < N → ∀ b, b < N → a ≠ b → (T a).2.1 ≠ (T b).2.1) ∧ (T 5).2.2.2 = true ∧ (T 5).1 = "CitingLetters$Orders" ∧ parseFieldDescriptor (T 5).2.2.1 = some (.array .int) := ⟨"CitingLetters$Orders", jTO, 10, jtO, rfl, jt_2 135 rfl rfl, jtO_ok, jnO_ok, rfl, rfl, by decide +kernel⟩
theorem flc_O_24 : jFl "CitingLetters$Orders" 24 9 7 := ⟨"CitingLetters$Orders", jTO, 10, rfl, by decide, rfl, iw_O, rfl, Or.inl (jt_2 138 rfl rfl)⟩
theorem flp_O_24 : ∃ (C : String) (T : u_T) (N : Nat) (ty0 : Nat → FieldType), jcl[9]? = some (C, T, N) ∧ Cond.fieldLink "CitingLetters$Orders" 24 C (T 7).2.1 (T 7).2.2.1 ∈ jw ∧ (∀ k, k < N → parseFieldDescriptor (T k).2.2.1 = some (ty0 k)) ∧ (∀ a, a < N → ∀ b, b < N → a ≠ b → (T a).2.1 ≠ (T b).2.1) ∧ (T 7).2.2.2 = true ∧ (T 7).1 = "CitingLetters$Orders" ∧ parseFieldDescriptor (T 7).2.2.1 = some (.array .int) := ⟨"CitingLetters$Orders", jTO, 10, jtO, rfl, jt_2 138 rfl rfl, jtO_ok, jnO_ok, rfl, rfl, by decide +kernel⟩
theorem flc_O_27 : jFl "CitingLetters$Orders" 27 9 8 := ⟨"CitingLetters$Orders", jTO, 10, rfl, by decide, rfl, iw_O, rfl, Or.inl (jt_2 139 rfl rfl)⟩
theorem flp_O_27 : ∃ (C : String) (T : u_T) (N : Nat) (ty0 : Nat → FieldType), jcl[9]? = some (C, T, N) ∧ Cond.fieldLink "CitingLetters$Orders" 27 C (T 8).2.1 (T 8).2.2.1 ∈ jw ∧ (∀ k, k < N → parseFieldDescriptor (T k).2.2.1 = some (ty0 k)) ∧ (∀ a, a < N → ∀ b, b < N → a ≠ b → (T a).2.1 ≠ (T b).2.1) ∧ (T 8).2.2.2 = true ∧ (T 8).1 = "CitingLetters$Orders" ∧ parseFieldDescriptor (T 8).2.2.1 = some (.array .int) := ⟨"CitingLetters$Orders", jTO, 10, jtO, rfl, jt_2 139 rfl rfl, jtO_ok, jnO_ok, rfl, rfl, by decide +kernel⟩
theorem flc_O_32 : jFl "CitingLetters$Orders" 32 9 9 := ⟨"CitingLetters$Orders", jTO, 10, rfl, by decide, rfl, iw_O, rfl, Or.inl (jt_2 140 rfl rfl)⟩
theorem flp_O_32 : ∃ (C : String) (T : u_T) (N : Nat) (ty0 : Nat → FieldType), jcl[9]? = some (C, T, N) ∧ Cond.fieldLink "CitingLetters$Orders" 32 C (T 9).2.1 (T 9).2.2.1 ∈ jw ∧ (∀ k, k < N → parseFieldDescriptor (T k).2.2.1 = some (ty0 k)) ∧ (∀ a, a < N → ∀ b, b < N → a ≠ b → (T a).2.1 ≠ (T b).2.1) ∧ (T 9).2.2.2 = true ∧ (T 9).1 = "CitingLetters$Orders" ∧ parseFieldDescriptor (T 9).2.2.1 = some (.array (.array .int)) := ⟨"CitingLetters$Orders", jTO, 10, jtO, rfl, jt_2 140 rfl rfl, jtO_ok, jnO_ok, rfl, rfl, by decide +kernel⟩
theorem flc_O_35 : jFl "CitingLetters$Orders" 35 9 0 := ⟨"CitingLetters$Orders", jTO, 10, rfl, by decide, rfl, iw_O, rfl, Or.inl (jt_2 129 rfl rfl)⟩
theorem flp_O_35 : ∃ (C : String) (T : u_T) (N : Nat) (ty0 : Nat → FieldType), jcl[9]? = some (C, T, N) ∧ Cond.fieldLink "CitingLetters$Orders" 35 C (T 0).2.1 (T 0).2.2.1 ∈ jw ∧ (∀ k, k < N → parseFieldDescriptor (T k).2.2.1 = some (ty0 k)) ∧ (∀ a, a < N → ∀ b, b < N → a ≠ b → (T a).2.1 ≠ (T b).2.1) ∧ (T 0).2.2.2 = true ∧ (T 0).1 = "CitingLetters$Orders" ∧ parseFieldDescriptor (T 0).2.2.1 = some (.object "CitingLetters$Ledger") := ⟨"CitingLetters$Orders", jTO, 10, jtO, rfl, jt_2 129 rfl rfl, jtO_ok, jnO_ok, rfl, rfl, by decide +kernel⟩
theorem flc_C_77 : jFl "CitingLetters" 77 0 12 := ⟨"CitingLetters", jTC, 13, rfl, by decide, rfl, iw_C, rfl, Or.inl (jt_2 174 rfl rfl)⟩
theorem flp_C_77 : ∃ (C : String) (T : u_T) (N : Nat) (ty0 : Nat → FieldType), jcl[0]? = some (C, T, N) ∧ Cond.fieldLink "CitingLetters" 77 C (T 12).2.1 (T 12).2.2.1 ∈ jw ∧ (∀ k, k < N → parseFieldDescriptor (T k).2.2.1 = some (ty0 k)) ∧ (∀ a, a < N → ∀ b, b < N → a ≠ b → (T a).2.1 ≠ (T b).2.1) ∧ (T 12).2.2.2 = true ∧ (T 12).1 = "CitingLetters" ∧ parseFieldDescriptor (T 12).2.2.1 = some (.object "CitingLetters$Orders") := ⟨"CitingLetters", jTC, 13, jtC, rfl, jt_2 174 rfl rfl, jtC_ok, jnC_ok, rfl, rfl, by decide +kernel⟩
abbrev Y_M_ini : jY := (⟨"CitingLettersModel", "<init>", "()V"⟩, prog_14_method_1_code, 2, none, 1, 39, 6625)
theorem mi_M_ini : jMi ⟨"CitingLettersModel", "<init>", "()V"⟩ prog_14_method_1_code 2 none 0 := ⟨jt_6 65 rfl rfl, jt_1 13 rfl rfl, ⟨by decide +kernel, by decide +kernel, by decide +kernel⟩, by decide, by decide +kernel⟩
theorem zi_M_ini : jret Y_M_ini = none ∧ (jy Y_M_ini).name = "<init>" ∧ Cond.instanceMethod (jy Y_M_ini) ∈ jw := ⟨rfl, rfl, jt_6 64 rfl rfl⟩
theorem wOI_M : Cond.methodLink "CitingLettersModel" 1 Lib.objectInit ∈ jw ∧ Cond.instanceMethod Lib.objectInit ∈ jw ∧ Cond.code Lib.objectInit ⟨#[0xb1]⟩ 1 none ∈ jw := ⟨jt_6 66 rfl rfl, jt_1 33 rfl rfl, jt_1 34 rfl rfl⟩
theorem flc_M_7 : jFl "CitingLettersModel" 7 10 1 := ⟨"CitingLettersModel", jTM, 71, rfl, by decide, rfl, iw_M, rfl, Or.inl (jt_6 68 rfl rfl)⟩
theorem flp_M_7 : ∃ (C : String) (T : u_T) (N : Nat) (ty0 : Nat → FieldType), jcl[10]? = some (C, T, N) ∧ Cond.fieldLink "CitingLettersModel" 7 C (T 1).2.1 (T 1).2.2.1 ∈ jw ∧ (∀ k, k < N → parseFieldDescriptor (T k).2.2.1 = some (ty0 k)) ∧ (∀ a, a < N → ∀ b, b < N → a ≠ b → (T a).2.1 ≠ (T b).2.1) ∧ (T 1).2.2.2 = true ∧ (T 1).1 = "CitingLettersModel" ∧ parseFieldDescriptor (T 1).2.2.1 = some (.array .int) := ⟨"CitingLettersModel", jTM, 71, jtM, rfl, jt_6 68 rfl rfl, jtM_ok, jnM_ok, rfl, rfl, by decide +kernel⟩
theorem flc_M_13 : jFl "CitingLettersModel" 13 10 3 := ⟨"CitingLettersModel", jTM, 71, rfl, by decide, rfl, iw_M, rfl, Or.inl (jt_6 70 rfl rfl)⟩
theorem flp_M_13 : ∃ (C : String) (T : u_T) (N : Nat) (ty0 : Nat → FieldType), jcl[10]? = some (C, T, N) ∧ Cond.fieldLink "CitingLettersModel" 13 C (T 3).2.1 (T 3).2.2.1 ∈ jw ∧ (∀ k, k < N → parseFieldDescriptor (T k).2.2.1 = some (ty0 k)) ∧ (∀ a, a < N → ∀ b, b < N → a ≠ b → (T a).2.1 ≠ (T b).2.1) ∧ (T 3).2.2.2 = true ∧ (T 3).1 = "CitingLettersModel" ∧ parseFieldDescriptor (T 3).2.2.1 = some (.array .int) := ⟨"CitingLettersModel", jTM, 71, jtM, rfl, jt_6 70 rfl rfl, jtM_ok, jnM_ok, rfl, rfl, by decide +kernel⟩
theorem flc_M_16 : jFl "CitingLettersModel" 16 10 4 := ⟨"CitingLettersModel", jTM, 71, rfl, by decide, rfl, iw_M, rfl, Or.inl (jt_6 71 rfl rfl)⟩
theorem flp_M_16 : ∃ (C : String) (T : u_T) (N : Nat) (ty0 : Nat → FieldType), jcl[10]? = some (C, T, N) ∧ Cond.fieldLink "CitingLettersModel" 16 C (T 4).2.1 (T 4).2.2.1 ∈ jw ∧ (∀ k, k < N → parseFieldDescriptor (T k).2.2.1 = some (ty0 k)) ∧ (∀ a, a < N → ∀ b, b < N → a ≠ b → (T a).2.1 ≠ (T b).2.1) ∧ (T 4).2.2.2 = true ∧ (T 4).1 = "CitingLettersModel" ∧ parseFieldDescriptor (T 4).2.2.1 = some (.array .int) := ⟨"CitingLettersModel", jTM, 71, jtM, rfl, jt_6 71 rfl rfl, jtM_ok, jnM_ok, rfl, rfl, by decide +kernel⟩
theorem flc_M_19 : jFl "CitingLettersModel" 19 10 8 := ⟨"CitingLettersModel", jTM, 71, rfl, by decide, rfl, iw_M, rfl, Or.inl (jt_6 75 rfl rfl)⟩
theorem flp_M_19 : ∃ (C : String) (T : u_T) (N : Nat) (ty0 : Nat → FieldType), jcl[10]? = some (C, T, N) ∧ Cond.fieldLink "CitingLettersModel" 19 C (T 8).2.1 (T 8).2.2.1 ∈ jw ∧ (∀ k, k < N → parseFieldDescriptor (T k).2.2.1 = some (ty0 k)) ∧ (∀ a, a < N → ∀ b, b < N → a ≠ b → (T a).2.1 ≠ (T b).2.1) ∧ (T 8).2.2.2 = true ∧ (T 8).1 = "CitingLettersModel" ∧ parseFieldDescriptor (T 8).2.2.1 = some (.array .boolean) := ⟨"CitingLettersModel", jTM, 71, jtM, rfl, jt_6 75 rfl rfl, jtM_ok, jnM_ok, rfl, rfl, by decide +kernel⟩
theorem flc_M_23 : jFl "CitingLettersModel" 23 10 9 := ⟨"CitingLettersModel", jTM, 71, rfl, by decide, rfl, iw_M, rfl, Or.inl (jt_6 76 rfl rfl)⟩
theorem flp_M_23 : ∃ (C : String) (T : u_T) (N : Nat) (ty0 : Nat → FieldType), jcl[10]? = some (C, T, N) ∧ Cond.fieldLink "CitingLettersModel" 23 C (T 9).2.1 (T 9).2.2.1 ∈ jw ∧ (∀ k, k < N → parseFieldDescriptor (T k).2.2.1 = some (ty0 k)) ∧ (∀ a, a < N → ∀ b, b < N → a ≠ b → (T a).2.1 ≠ (T b).2.1) ∧ (T 9).2.2.2 = true ∧ (T 9).1 = "CitingLettersModel" ∧ parseFieldDescriptor (T 9).2.2.1 = some (.array .int) := ⟨"CitingLettersModel", jTM, 71, jtM, rfl, jt_6 76 rfl rfl, jtM_ok, jnM_ok, rfl, rfl, by decide +kernel⟩
theorem flc_M_26 : jFl "CitingLettersModel" 26 10 10 := ⟨"CitingLettersModel", jTM, 71, rfl, by decide, rfl, iw_M, rfl, Or.inl (jt_6 77 rfl rfl)⟩
theorem flp_M_26 : ∃ (C : String) (T : u_T) (N : Nat) (ty0 : Nat → FieldType), jcl[10]? = some (C, T, N) ∧ Cond.fieldLink "CitingLettersModel" 26 C (T 10).2.1 (T 10).2.2.1 ∈ jw ∧ (∀ k, k < N → parseFieldDescriptor (T k).2.2.1 = some (ty0 k)) ∧ (∀ a, a < N → ∀ b, b < N → a ≠ b → (T a).2.1 ≠ (T b).2.1) ∧ (T 10).2.2.2 = true ∧ (T 10).1 = "CitingLettersModel" ∧ parseFieldDescriptor (T 10).2.2.1 = some (.array .int) := ⟨"CitingLettersModel", jTM, 71, jtM, rfl, jt_6 77 rfl rfl, jtM_ok, jnM_ok, rfl, rfl, by decide +kernel⟩
theorem flc_M_29 : jFl "CitingLettersModel" 29 10 13 := ⟨"CitingLettersModel", jTM, 71, rfl, by decide, rfl, iw_M, rfl, Or.inl (jt_6 80 rfl rfl)⟩
theorem flp_M_29 : ∃ (C : String) (T : u_T) (N : Nat) (ty0 : Nat → FieldType), jcl[10]? = some (C, T, N) ∧ Cond.fieldLink "CitingLettersModel" 29 C (T 13).2.1 (T 13).2.2.1 ∈ jw ∧ (∀ k, k < N → parseFieldDescriptor (T k).2.2.1 = some (ty0 k)) ∧ (∀ a, a < N → ∀ b, b < N → a ≠ b → (T a).2.1 ≠ (T b).2.1) ∧ (T 13).2.2.2 = true ∧ (T 13).1 = "CitingLettersModel" ∧ parseFieldDescriptor (T 13).2.2.1 = some (.array .int) := ⟨"CitingLettersModel", jTM, 71, jtM, rfl, jt_6 80 rfl rfl, jtM_ok, jnM_ok, rfl, rfl, by decide +kernel⟩
theorem flc_M_32 : jFl "CitingLettersModel" 32 10 24 := ⟨"CitingLettersModel", jTM, 71, rfl, by decide, rfl, iw_M, rfl, Or.inl (jt_6 91 rfl rfl)⟩
theorem fpc_10_24 : jFp 10 24 .int := ⟨"CitingLettersModel", jTM, 71, jtM, rfl, jtM_ok, jnM_ok, rfl, by decide +kernel⟩
theorem flc_M_36 : jFl "CitingLettersModel" 36 10 25 := ⟨"CitingLettersModel", jTM, 71, rfl, by decide, rfl, iw_M, rfl, Or.inl (jt_6 92 rfl rfl)⟩
theorem flp_M_36 : ∃ (C : String) (T : u_T) (N : Nat) (ty0 : Nat → FieldType), jcl[10]? = some (C, T, N) ∧ Cond.fieldLink "CitingLettersModel" 36 C (T 25).2.1 (T 25).2.2.1 ∈ jw ∧ (∀ k, k < N → parseFieldDescriptor (T k).2.2.1 = some (ty0 k)) ∧ (∀ a, a < N → ∀ b, b < N → a ≠ b → (T a).2.1 ≠ (T b).2.1) ∧ (T 25).2.2.2 = true ∧ (T 25).1 = "CitingLettersModel" ∧ parseFieldDescriptor (T 25).2.2.1 = some (.array .int) := ⟨"CitingLettersModel", jTM, 71, jtM, rfl, jt_6 92 rfl rfl, jtM_ok, jnM_ok, rfl, rfl, by decide +kernel⟩
theorem flc_M_39 : jFl "CitingLettersModel" 39 10 28 := ⟨"CitingLettersModel", jTM, 71, rfl, by decide, rfl, iw_M, rfl, Or.inl (jt_6 95 rfl rfl)⟩
theorem flp_M_39 : ∃ (C : String) (T : u_T) (N : Nat) (ty0 : Nat → FieldType), jcl[10]? = some (C, T, N) ∧ Cond.fieldLink "CitingLettersModel" 39 C (T 28).2.1 (T 28).2.2.1 ∈ jw ∧ (∀ k, k < N → parseFieldDescriptor (T k).2.2.1 = some (ty0 k)) ∧ (∀ a, a < N → ∀ b, b < N → a ≠ b → (T a).2.1 ≠ (T b).2.1) ∧ (T 28).2.2.2 = true ∧ (T 28).1 = "CitingLettersModel" ∧ parseFieldDescriptor (T 28).2.2.1 = some (.array .int) := ⟨"CitingLettersModel", jTM, 71, jtM, rfl, jt_6 95 rfl rfl, jtM_ok, jnM_ok, rfl, rfl, by decide +kernel⟩
theorem flc_M_42 : jFl "CitingLettersModel" 42 10 29 := ⟨"CitingLettersModel", jTM, 71, rfl, by decide, rfl, iw_M, rfl, Or.inl (jt_6 96 rfl rfl)⟩
theorem flp_M_42 : ∃ (C : String) (T : u_T) (N : Nat) (ty0 : Nat → FieldType), jcl[10]? = some (C, T, N) ∧ Cond.fieldLink "CitingLettersModel" 42 C (T 29).2.1 (T 29).2.2.1 ∈ jw ∧ (∀ k, k < N → parseFieldDescriptor (T k).2.2.1 = some (ty0 k)) ∧ (∀ a, a < N → ∀ b, b < N → a ≠ b → (T a).2.1 ≠ (T b).2.1) ∧ (T 29).2.2.2 = true ∧ (T 29).1 = "CitingLettersModel" ∧ parseFieldDescriptor (T 29).2.2.1 = some (.array .int) := ⟨"CitingLettersModel", jTM, 71, jtM, rfl, jt_6 96 rfl rfl, jtM_ok, jnM_ok, rfl, rfl, by decide +kernel⟩
theorem flc_M_45 : jFl "CitingLettersModel" 45 10 32 := ⟨"CitingLettersModel", jTM, 71, rfl, by decide, rfl, iw_M, rfl, Or.inl (jt_6 99 rfl rfl)⟩
theorem flp_M_45 : ∃ (C : String) (T : u_T) (N : Nat) (ty0 : Nat → FieldType), jcl[10]? = some (C, T, N) ∧ Cond.fieldLink "CitingLettersModel" 45 C (T 32).2.1 (T 32).2.2.1 ∈ jw ∧ (∀ k, k < N → parseFieldDescriptor (T k).2.2.1 = some (ty0 k)) ∧ (∀ a, a < N → ∀ b, b < N → a ≠ b → (T a).2.1 ≠ (T b).2.1) ∧ (T 32).2.2.2 = true ∧ (T 32).1 = "CitingLettersModel" ∧ parseFieldDescriptor (T 32).2.2.1 = some (.array .int) := ⟨"CitingLettersModel", jTM, 71, jtM, rfl, jt_6 99 rfl rfl, jtM_ok, jnM_ok, rfl, rfl, by decide +kernel⟩
theorem flc_M_48 : jFl "CitingLettersModel" 48 10 34 := ⟨"CitingLettersModel", jTM, 71, rfl, by decide, rfl, iw_M, rfl, Or.inl (jt_6 101 rfl rfl)⟩
theorem flp_M_48 : ∃ (C : String) (T : u_T) (N : Nat) (ty0 : Nat → FieldType), jcl[10]? = some (C, T, N) ∧ Cond.fieldLink "CitingLettersModel" 48 C (T 34).2.1 (T 34).2.2.1 ∈ jw ∧ (∀ k, k < N → parseFieldDescriptor (T k).2.2.1 = some (ty0 k)) ∧ (∀ a, a < N → ∀ b, b < N → a ≠ b → (T a).2.1 ≠ (T b).2.1) ∧ (T 34).2.2.2 = true ∧ (T 34).1 = "CitingLettersModel" ∧ parseFieldDescriptor (T 34).2.2.1 = some (.array .int) := ⟨"CitingLettersModel", jTM, 71, jtM, rfl, jt_6 101 rfl rfl, jtM_ok, jnM_ok, rfl, rfl, by decide +kernel⟩
theorem flc_M_51 : jFl "CitingLettersModel" 51 10 35 := ⟨"CitingLettersModel", jTM, 71, rfl, by decide, rfl, iw_M, rfl, Or.inl (jt_6 102 rfl rfl)⟩
theorem flp_M_51 : ∃ (C : String) (T : u_T) (N : Nat) (ty0 : Nat → FieldType), jcl[10]? = some (C, T, N) ∧ Cond.fieldLink "CitingLettersModel" 51 C (T 35).2.1 (T 35).2.2.1 ∈ jw ∧ (∀ k, k < N → parseFieldDescriptor (T k).2.2.1 = some (ty0 k)) ∧ (∀ a, a < N → ∀ b, b < N → a ≠ b → (T a).2.1 ≠ (T b).2.1) ∧ (T 35).2.2.2 = true ∧ (T 35).1 = "CitingLettersModel" ∧ parseFieldDescriptor (T 35).2.2.1 = some (.array .int) := ⟨"CitingLettersModel", jTM, 71, jtM, rfl, jt_6 102 rfl rfl, jtM_ok, jnM_ok, rfl, rfl, by decide +kernel⟩
theorem flc_M_54 : jFl "CitingLettersModel" 54 10 36 := ⟨"CitingLettersModel", jTM, 71, rfl, by decide, rfl, iw_M, rfl, Or.inl (jt_6 103 rfl rfl)⟩
theorem flp_M_54 : ∃ (C : String) (T : u_T) (N : Nat) (ty0 : Nat → FieldType), jcl[10]? = some (C, T, N) ∧ Cond.fieldLink "CitingLettersModel" 54 C (T 36).2.1 (T 36).2.2.1 ∈ jw ∧ (∀ k, k < N → parseFieldDescriptor (T k).2.2.1 = some (ty0 k)) ∧ (∀ a, a < N → ∀ b, b < N → a ≠ b → (T a).2.1 ≠ (T b).2.1) ∧ (T 36).2.2.2 = true ∧ (T 36).1 = "CitingLettersModel" ∧ parseFieldDescriptor (T 36).2.2.1 = some (.array .int) := ⟨"CitingLettersModel", jTM, 71, jtM, rfl, jt_6 103 rfl rfl, jtM_ok, jnM_ok, rfl, rfl, by decide +kernel⟩
theorem flc_M_57 : jFl "CitingLettersModel" 57 10 37 := ⟨"CitingLettersModel", jTM, 71, rfl, by decide, rfl, iw_M, rfl, Or.inl (jt_6 104 rfl rfl)⟩
theorem flp_M_57 : ∃ (C : String) (T : u_T) (N : Nat) (ty0 : Nat → FieldType), jcl[10]? = some (C, T, N) ∧ Cond.fieldLink "CitingLettersModel" 57 C (T 37).2.1 (T 37).2.2.1 ∈ jw ∧ (∀ k, k < N → parseFieldDescriptor (T k).2.2.1 = some (ty0 k)) ∧ (∀ a, a < N → ∀ b, b < N → a ≠ b → (T a).2.1 ≠ (T b).2.1) ∧ (T 37).2.2.2 = true ∧ (T 37).1 = "CitingLettersModel" ∧ parseFieldDescriptor (T 37).2.2.1 = some (.array .int) := ⟨"CitingLettersModel", jTM, 71, jtM, rfl, jt_6 104 rfl rfl, jtM_ok, jnM_ok, rfl, rfl, by decide +kernel⟩
theorem flc_M_60 : jFl "CitingLettersModel" 60 10 38 := ⟨"CitingLettersModel", jTM, 71, rfl, by decide, rfl, iw_M, rfl, Or.inl (jt_6 105 rfl rfl)⟩
theorem flp_M_60 : ∃ (C : String) (T : u_T) (N : Nat) (ty0 : Nat → FieldType), jcl[10]? = some (C, T, N) ∧ Cond.fieldLink "CitingLettersModel" 60 C (T 38).2.1 (T 38).2.2.1 ∈ jw ∧ (∀ k, k < N → parseFieldDescriptor (T k).2.2.1 = some (ty0 k)) ∧ (∀ a, a < N → ∀ b, b < N → a ≠ b → (T a).2.1 ≠ (T b).2.1) ∧ (T 38).2.2.2 = true ∧ (T 38).1 = "CitingLettersModel" ∧ parseFieldDescriptor (T 38).2.2.1 = some (.array .int) := ⟨"CitingLettersModel", jTM, 71, jtM, rfl, jt_6 105 rfl rfl, jtM_ok, jnM_ok, rfl, rfl, by decide +kernel⟩
theorem flc_M_63 : jFl "CitingLettersModel" 63 10 39 := ⟨"CitingLettersModel", jTM, 71, rfl, by decide, rfl, iw_M, rfl, Or.inl (jt_6 106 rfl rfl)⟩
theorem flp_M_63 : ∃ (C : String) (T : u_T) (N : Nat) (ty0 : Nat → FieldType), jcl[10]? = some (C, T, N) ∧ Cond.fieldLink "CitingLettersModel" 63 C (T 39).2.1 (T 39).2.2.1 ∈ jw ∧ (∀ k, k < N → parseFieldDescriptor (T k).2.2.1 = some (ty0 k)) ∧ (∀ a, a < N → ∀ b, b < N → a ≠ b → (T a).2.1 ≠ (T b).2.1) ∧ (T 39).2.2.2 = true ∧ (T 39).1 = "CitingLettersModel" ∧ parseFieldDescriptor (T 39).2.2.1 = some (.array .int) := ⟨"CitingLettersModel", jTM, 71, jtM, rfl, jt_6 106 rfl rfl, jtM_ok, jnM_ok, rfl, rfl, by decide +kernel⟩
theorem flc_M_66 : jFl "CitingLettersModel" 66 10 40 := ⟨"CitingLettersModel", jTM, 71, rfl, by decide, rfl, iw_M, rfl, Or.inl (jt_6 107 rfl rfl)⟩
theorem flp_M_66 : ∃ (C : String) (T : u_T) (N : Nat) (ty0 : Nat → FieldType), jcl[10]? = some (C, T, N) ∧ Cond.fieldLink "CitingLettersModel" 66 C (T 40).2.1 (T 40).2.2.1 ∈ jw ∧ (∀ k, k < N → parseFieldDescriptor (T k).2.2.1 = some (ty0 k)) ∧ (∀ a, a < N → ∀ b, b < N → a ≠ b → (T a).2.1 ≠ (T b).2.1) ∧ (T 40).2.2.2 = true ∧ (T 40).1 = "CitingLettersModel" ∧ parseFieldDescriptor (T 40).2.2.1 = some (.array .int) := ⟨"CitingLettersModel", jTM, 71, jtM, rfl, jt_6 107 rfl rfl, jtM_ok, jnM_ok, rfl, rfl, by decide +kernel⟩
theorem flc_M_69 : jFl "CitingLettersModel" 69 10 41 := ⟨"CitingLettersModel", jTM, 71, rfl, by decide, rfl, iw_M, rfl, Or.inl (jt_6 108 rfl rfl)⟩
theorem flp_M_69 : ∃ (C : String) (T : u_T) (N : Nat) (ty0 : Nat → FieldType), jcl[10]? = some (C, T, N) ∧ Cond.fieldLink "CitingLettersModel" 69 C (T 41).2.1 (T 41).2.2.1 ∈ jw ∧ (∀ k, k < N → parseFieldDescriptor (T k).2.2.1 = some (ty0 k)) ∧ (∀ a, a < N → ∀ b, b < N → a ≠ b → (T a).2.1 ≠ (T b).2.1) ∧ (T 41).2.2.2 = true ∧ (T 41).1 = "CitingLettersModel" ∧ parseFieldDescriptor (T 41).2.2.1 = some (.array .int) := ⟨"CitingLettersModel", jTM, 71, jtM, rfl, jt_6 108 rfl rfl, jtM_ok, jnM_ok, rfl, rfl, by decide +kernel⟩
theorem flc_M_72 : jFl "CitingLettersModel" 72 10 42 := ⟨"CitingLettersModel", jTM, 71, rfl, by decide, rfl, iw_M, rfl, Or.inl (jt_6 109 rfl rfl)⟩
theorem flp_M_72 : ∃ (C : String) (T : u_T) (N : Nat) (ty0 : Nat → FieldType), jcl[10]? = some (C, T, N) ∧ Cond.fieldLink "CitingLettersModel" 72 C (T 42).2.1 (T 42).2.2.1 ∈ jw ∧ (∀ k, k < N → parseFieldDescriptor (T k).2.2.1 = some (ty0 k)) ∧ (∀ a, a < N → ∀ b, b < N → a ≠ b → (T a).2.1 ≠ (T b).2.1) ∧ (T 42).2.2.2 = true ∧ (T 42).1 = "CitingLettersModel" ∧ parseFieldDescriptor (T 42).2.2.1 = some (.array .boolean) := ⟨"CitingLettersModel", jTM, 71, jtM, rfl, jt_6 109 rfl rfl, jtM_ok, jnM_ok, rfl, rfl, by decide +kernel⟩
theorem flc_M_75 : jFl "CitingLettersModel" 75 10 45 := ⟨"CitingLettersModel", jTM, 71, rfl, by decide, rfl, iw_M, rfl, Or.inl (jt_6 112 rfl rfl)⟩
theorem flp_M_75 : ∃ (C : String) (T : u_T) (N : Nat) (ty0 : Nat → FieldType), jcl[10]? = some (C, T, N) ∧ Cond.fieldLink "CitingLettersModel" 75 C (T 45).2.1 (T 45).2.2.1 ∈ jw ∧ (∀ k, k < N → parseFieldDescriptor (T k).2.2.1 = some (ty0 k)) ∧ (∀ a, a < N → ∀ b, b < N → a ≠ b → (T a).2.1 ≠ (T b).2.1) ∧ (T 45).2.2.2 = true ∧ (T 45).1 = "CitingLettersModel" ∧ parseFieldDescriptor (T 45).2.2.1 = some (.array .int) := ⟨"CitingLettersModel", jTM, 71, jtM, rfl, jt_6 112 rfl rfl, jtM_ok, jnM_ok, rfl, rfl, by decide +kernel⟩
theorem flc_M_78 : jFl "CitingLettersModel" 78 10 46 := ⟨"CitingLettersModel", jTM, 71, rfl, by decide, rfl, iw_M, rfl, Or.inl (jt_6 113 rfl rfl)⟩
theorem flp_M_78 : ∃ (C : String) (T : u_T) (N : Nat) (ty0 : Nat → FieldType), jcl[10]? = some (C, T, N) ∧ Cond.fieldLink "CitingLettersModel" 78 C (T 46).2.1 (T 46).2.2.1 ∈ jw ∧ (∀ k, k < N → parseFieldDescriptor (T k).2.2.1 = some (ty0 k)) ∧ (∀ a, a < N → ∀ b, b < N → a ≠ b → (T a).2.1 ≠ (T b).2.1) ∧ (T 46).2.2.2 = true ∧ (T 46).1 = "CitingLettersModel" ∧ parseFieldDescriptor (T 46).2.2.1 = some (.array .int) := ⟨"CitingLettersModel", jTM, 71, jtM, rfl, jt_6 113 rfl rfl, jtM_ok, jnM_ok, rfl, rfl, by decide +kernel⟩
theorem flc_M_81 : jFl "CitingLettersModel" 81 10 47 := ⟨"CitingLettersModel", jTM, 71, rfl, by decide, rfl, iw_M, rfl, Or.inl (jt_6 114 rfl rfl)⟩
theorem flp_M_81 : ∃ (C : String) (T : u_T) (N : Nat) (ty0 : Nat → FieldType), jcl[10]? = some (C, T, N) ∧ Cond.fieldLink "CitingLettersModel" 81 C (T 47).2.1 (T 47).2.2.1 ∈ jw ∧ (∀ k, k < N → parseFieldDescriptor (T k).2.2.1 = some (ty0 k)) ∧ (∀ a, a < N → ∀ b, b < N → a ≠ b → (T a).2.1 ≠ (T b).2.1) ∧ (T 47).2.2.2 = true ∧ (T 47).1 = "CitingLettersModel" ∧ parseFieldDescriptor (T 47).2.2.1 = some (.array .int) := ⟨"CitingLettersModel", jTM, 71, jtM, rfl, jt_6 114 rfl rfl, jtM_ok, jnM_ok, rfl, rfl, by decide +kernel⟩
theorem flc_M_84 : jFl "CitingLettersModel" 84 10 48 := ⟨"CitingLettersModel", jTM, 71, rfl, by decide, rfl, iw_M, rfl, Or.inl (jt_6 115 rfl rfl)⟩
theorem flp_M_84 : ∃ (C : String) (T : u_T) (N : Nat) (ty0 : Nat → FieldType), jcl[10]? = some (C, T, N) ∧ Cond.fieldLink "CitingLettersModel" 84 C (T 48).2.1 (T 48).2.2.1 ∈ jw ∧ (∀ k, k < N → parseFieldDescriptor (T k).2.2.1 = some (ty0 k)) ∧ (∀ a, a < N → ∀ b, b < N → a ≠ b → (T a).2.1 ≠ (T b).2.1) ∧ (T 48).2.2.2 = true ∧ (T 48).1 = "CitingLettersModel" ∧ parseFieldDescriptor (T 48).2.2.1 = some (.array .int) := ⟨"CitingLettersModel", jTM, 71, jtM, rfl, jt_6 115 rfl rfl, jtM_ok, jnM_ok, rfl, rfl, by decide +kernel⟩
theorem flc_M_87 : jFl "CitingLettersModel" 87 10 49 := ⟨"CitingLettersModel", jTM, 71, rfl, by decide, rfl, iw_M, rfl, Or.inl (jt_6 116 rfl rfl)⟩
theorem flp_M_87 : ∃ (C : String) (T : u_T) (N : Nat) (ty0 : Nat → FieldType), jcl[10]? = some (C, T, N) ∧ Cond.fieldLink "CitingLettersModel" 87 C (T 49).2.1 (T 49).2.2.1 ∈ jw ∧ (∀ k, k < N → parseFieldDescriptor (T k).2.2.1 = some (ty0 k)) ∧ (∀ a, a < N → ∀ b, b < N → a ≠ b → (T a).2.1 ≠ (T b).2.1) ∧ (T 49).2.2.2 = true ∧ (T 49).1 = "CitingLettersModel" ∧ parseFieldDescriptor (T 49).2.2.1 = some (.array .int) := ⟨"CitingLettersModel", jTM, 71, jtM, rfl, jt_6 116 rfl rfl, jtM_ok, jnM_ok, rfl, rfl, by decide +kernel⟩
theorem flc_M_90 : jFl "CitingLettersModel" 90 10 53 := ⟨"CitingLettersModel", jTM, 71, rfl, by decide, rfl, iw_M, rfl, Or.inl (jt_6 120 rfl rfl)⟩
theorem flp_M_90 : ∃ (C : String) (T : u_T) (N : Nat) (ty0 : Nat → FieldType), jcl[10]? = some (C, T, N) ∧ Cond.fieldLink "CitingLettersModel" 90 C (T 53).2.1 (T 53).2.2.1 ∈ jw ∧ (∀ k, k < N → parseFieldDescriptor (T k).2.2.1 = some (ty0 k)) ∧ (∀ a, a < N → ∀ b, b < N → a ≠ b → (T a).2.1 ≠ (T b).2.1) ∧ (T 53).2.2.2 = true ∧ (T 53).1 = "CitingLettersModel" ∧ parseFieldDescriptor (T 53).2.2.1 = some (.array .int) := ⟨"CitingLettersModel", jTM, 71, jtM, rfl, jt_6 120 rfl rfl, jtM_ok, jnM_ok, rfl, rfl, by decide +kernel⟩
theorem flc_M_93 : jFl "CitingLettersModel" 93 10 54 := ⟨"CitingLettersModel", jTM, 71, rfl, by decide, rfl, iw_M, rfl, Or.inl (jt_6 121 rfl rfl)⟩
theorem flp_M_93 : ∃ (C : String) (T : u_T) (N : Nat) (ty0 : Nat → FieldType), jcl[10]? = some (C, T, N) ∧ Cond.fieldLink "CitingLettersModel" 93 C (T 54).2.1 (T 54).2.2.1 ∈ jw ∧ (∀ k, k < N → parseFieldDescriptor (T k).2.2.1 = some (ty0 k)) ∧ (∀ a, a < N → ∀ b, b < N → a ≠ b → (T a).2.1 ≠ (T b).2.1) ∧ (T 54).2.2.2 = true ∧ (T 54).1 = "CitingLettersModel" ∧ parseFieldDescriptor (T 54).2.2.1 = some (.array .int) := ⟨"CitingLettersModel", jTM, 71, jtM, rfl, jt_6 121 rfl rfl, jtM_ok, jnM_ok, rfl, rfl, by decide +kernel⟩
theorem flc_M_96 : jFl "CitingLettersModel" 96 10 55 := ⟨"CitingLettersModel", jTM, 71, rfl, by decide, rfl, iw_M, rfl, Or.inl (jt_6 122 rfl rfl)⟩
theorem flp_M_96 : ∃ (C : String) (T : u_T) (N : Nat) (ty0 : Nat → FieldType), jcl[10]? = some (C, T, N) ∧ Cond.fieldLink "CitingLettersModel" 96 C (T 55).2.1 (T 55).2.2.1 ∈ jw ∧ (∀ k, k < N → parseFieldDescriptor (T k).2.2.1 = some (ty0 k)) ∧ (∀ a, a < N → ∀ b, b < N → a ≠ b → (T a).2.1 ≠ (T b).2.1) ∧ (T 55).2.2.2 = true ∧ (T 55).1 = "CitingLettersModel" ∧ parseFieldDescriptor (T 55).2.2.1 = some (.array .int) := ⟨"CitingLettersModel", jTM, 71, jtM, rfl, jt_6 122 rfl rfl, jtM_ok, jnM_ok, rfl, rfl, by decide +kernel⟩
theorem flc_M_99 : jFl "CitingLettersModel" 99 10 56 := ⟨"CitingLettersModel", jTM, 71, rfl, by decide, rfl, iw_M, rfl, Or.inl (jt_6 123 rfl rfl)⟩
theorem flp_M_99 : ∃ (C : String) (T : u_T) (N : Nat) (ty0 : Nat → FieldType), jcl[10]? = some (C, T, N) ∧ Cond.fieldLink "CitingLettersModel" 99 C (T 56).2.1 (T 56).2.2.1 ∈ jw ∧ (∀ k, k < N → parseFieldDescriptor (T k).2.2.1 = some (ty0 k)) ∧ (∀ a, a < N → ∀ b, b < N → a ≠ b → (T a).2.1 ≠ (T b).2.1) ∧ (T 56).2.2.2 = true ∧ (T 56).1 = "CitingLettersModel" ∧ parseFieldDescriptor (T 56).2.2.1 = some (.array .int) := ⟨"CitingLettersModel", jTM, 71, jtM, rfl, jt_6 123 rfl rfl, jtM_ok, jnM_ok, rfl, rfl, by decide +kernel⟩
theorem flc_M_102 : jFl "CitingLettersModel" 102 10 58 := ⟨"CitingLettersModel", jTM, 71, rfl, by decide, rfl, iw_M, rfl, Or.inl (jt_6 125 rfl rfl)⟩
theorem flp_M_102 : ∃ (C : String) (T : u_T) (N : Nat) (ty0 : Nat → FieldType), jcl[10]? = some (C, T, N) ∧ Cond.fieldLink "CitingLettersModel" 102 C (T 58).2.1 (T 58).2.2.1 ∈ jw ∧ (∀ k, k < N → parseFieldDescriptor (T k).2.2.1 = some (ty0 k)) ∧ (∀ a, a < N → ∀ b, b < N → a ≠ b → (T a).2.1 ≠ (T b).2.1) ∧ (T 58).2.2.2 = true ∧ (T 58).1 = "CitingLettersModel" ∧ parseFieldDescriptor (T 58).2.2.1 = some (.array .int) := ⟨"CitingLettersModel", jTM, 71, jtM, rfl, jt_6 125 rfl rfl, jtM_ok, jnM_ok, rfl, rfl, by decide +kernel⟩
theorem flc_M_105 : jFl "CitingLettersModel" 105 10 59 := ⟨"CitingLettersModel", jTM, 71, rfl, by decide, rfl, iw_M, rfl, Or.inl (jt_6 126 rfl rfl)⟩
theorem flp_M_105 : ∃ (C : String) (T : u_T) (N : Nat) (ty0 : Nat → FieldType), jcl[10]? = some (C, T, N) ∧ Cond.fieldLink "CitingLettersModel" 105 C (T 59).2.1 (T 59).2.2.1 ∈ jw ∧ (∀ k, k < N → parseFieldDescriptor (T k).2.2.1 = some (ty0 k)) ∧ (∀ a, a < N → ∀ b, b < N → a ≠ b → (T a).2.1 ≠ (T b).2.1) ∧ (T 59).2.2.2 = true ∧ (T 59).1 = "CitingLettersModel" ∧ parseFieldDescriptor (T 59).2.2.1 = some (.array .int) := ⟨"CitingLettersModel", jTM, 71, jtM, rfl, jt_6 126 rfl rfl, jtM_ok, jnM_ok, rfl, rfl, by decide +kernel⟩
theorem flc_M_108 : jFl "CitingLettersModel" 108 10 60 := ⟨"CitingLettersModel", jTM, 71, rfl, by decide, rfl, iw_M, rfl, Or.inl (jt_6 127 rfl rfl)⟩
theorem flp_M_108 : ∃ (C : String) (T : u_T) (N : Nat) (ty0 : Nat → FieldType), jcl[10]? = some (C, T, N) ∧ Cond.fieldLink "CitingLettersModel" 108 C (T 60).2.1 (T 60).2.2.1 ∈ jw ∧ (∀ k, k < N → parseFieldDescriptor (T k).2.2.1 = some (ty0 k)) ∧ (∀ a, a < N → ∀ b, b < N → a ≠ b → (T a).2.1 ≠ (T b).2.1) ∧ (T 60).2.2.2 = true ∧ (T 60).1 = "CitingLettersModel" ∧ parseFieldDescriptor (T 60).2.2.1 = some (.array .int) := ⟨"CitingLettersModel", jTM, 71, jtM, rfl, jt_6 127 rfl rfl, jtM_ok, jnM_ok, rfl, rfl, by decide +kernel⟩
theorem flc_M_111 : jFl "CitingLettersModel" 111 10 61 := ⟨"CitingLettersModel", jTM, 71, rfl, by decide, rfl, iw_M, rfl, Or.inl (jt_6 128 rfl rfl)⟩
theorem flp_M_111 : ∃ (C : String) (T : u_T) (N : Nat) (ty0 : Nat → FieldType), jcl[10]? = some (C, T, N) ∧ Cond.fieldLink "CitingLettersModel" 111 C (T 61).2.1 (T 61).2.2.1 ∈ jw ∧ (∀ k, k < N → parseFieldDescriptor (T k).2.2.1 = some (ty0 k)) ∧ (∀ a, a < N → ∀ b, b < N → a ≠ b → (T a).2.1 ≠ (T b).2.1) ∧ (T 61).2.2.2 = true ∧ (T 61).1 = "CitingLettersModel" ∧ parseFieldDescriptor (T 61).2.2.1 = some (.array .int) := ⟨"CitingLettersModel", jTM, 71, jtM, rfl, jt_6 128 rfl rfl, jtM_ok, jnM_ok, rfl, rfl, by decide +kernel⟩
theorem flc_M_114 : jFl "CitingLettersModel" 114 10 63 := ⟨"CitingLettersModel", jTM, 71, rfl, by decide, rfl, iw_M, rfl, Or.inl (jt_6 130 rfl rfl)⟩
theorem flp_M_114 : ∃ (C : String) (T : u_T) (N : Nat) (ty0 : Nat → FieldType), jcl[10]? = some (C, T, N) ∧ Cond.fieldLink "CitingLettersModel" 114 C (T 63).2.1 (T 63).2.2.1 ∈ jw ∧ (∀ k, k < N → parseFieldDescriptor (T k).2.2.1 = some (ty0 k)) ∧ (∀ a, a < N → ∀ b, b < N → a ≠ b → (T a).2.1 ≠ (T b).2.1) ∧ (T 63).2.2.2 = true ∧ (T 63).1 = "CitingLettersModel" ∧ parseFieldDescriptor (T 63).2.2.1 = some (.array .int) := ⟨"CitingLettersModel", jTM, 71, jtM, rfl, jt_6 130 rfl rfl, jtM_ok, jnM_ok, rfl, rfl, by decide +kernel⟩
theorem flc_M_117 : jFl "CitingLettersModel" 117 10 65 := ⟨"CitingLettersModel", jTM, 71, rfl, by decide, rfl, iw_M, rfl, Or.inl (jt_6 132 rfl rfl)⟩
theorem flp_M_117 : ∃ (C : String) (T : u_T) (N : Nat) (ty0 : Nat → FieldType), jcl[10]? = some (C, T, N) ∧ Cond.fieldLink "CitingLettersModel" 117 C (T 65).2.1 (T 65).2.2.1 ∈ jw ∧ (∀ k, k < N → parseFieldDescriptor (T k).2.2.1 = some (ty0 k)) ∧ (∀ a, a < N → ∀ b, b < N → a ≠ b → (T a).2.1 ≠ (T b).2.1) ∧ (T 65).2.2.2 = true ∧ (T 65).1 = "CitingLettersModel" ∧ parseFieldDescriptor (T 65).2.2.1 = some (.array .int) := ⟨"CitingLettersModel", jTM, 71, jtM, rfl, jt_6 132 rfl rfl, jtM_ok, jnM_ok, rfl, rfl, by decide +kernel⟩
theorem flc_M_120 : jFl "CitingLettersModel" 120 10 66 := ⟨"CitingLettersModel", jTM, 71, rfl, by decide, rfl, iw_M, rfl, Or.inl (jt_6 133 rfl rfl)⟩
theorem flp_M_120 : ∃ (C : String) (T : u_T) (N : Nat) (ty0 : Nat → FieldType), jcl[10]? = some (C, T, N) ∧ Cond.fieldLink "CitingLettersModel" 120 C (T 66).2.1 (T 66).2.2.1 ∈ jw ∧ (∀ k, k < N → parseFieldDescriptor (T k).2.2.1 = some (ty0 k)) ∧ (∀ a, a < N → ∀ b, b < N → a ≠ b → (T a).2.1 ≠ (T b).2.1) ∧ (T 66).2.2.2 = true ∧ (T 66).1 = "CitingLettersModel" ∧ parseFieldDescriptor (T 66).2.2.1 = some (.array .int) := ⟨"CitingLettersModel", jTM, 71, jtM, rfl, jt_6 133 rfl rfl, jtM_ok, jnM_ok, rfl, rfl, by decide +kernel⟩
theorem flc_M_123 : jFl "CitingLettersModel" 123 10 68 := ⟨"CitingLettersModel", jTM, 71, rfl, by decide, rfl, iw_M, rfl, Or.inl (jt_6 135 rfl rfl)⟩
theorem flp_M_123 : ∃ (C : String) (T : u_T) (N : Nat) (ty0 : Nat → FieldType), jcl[10]? = some (C, T, N) ∧ Cond.fieldLink "CitingLettersModel" 123 C (T 68).2.1 (T 68).2.2.1 ∈ jw ∧ (∀ k, k < N → parseFieldDescriptor (T k).2.2.1 = some (ty0 k)) ∧ (∀ a, a < N → ∀ b, b < N → a ≠ b → (T a).2.1 ≠ (T b).2.1) ∧ (T 68).2.2.2 = true ∧ (T 68).1 = "CitingLettersModel" ∧ parseFieldDescriptor (T 68).2.2.1 = some (.array .int) := ⟨"CitingLettersModel", jTM, 71, jtM, rfl, jt_6 135 rfl rfl, jtM_ok, jnM_ok, rfl, rfl, by decide +kernel⟩
theorem flc_M_126 : jFl "CitingLettersModel" 126 10 69 := ⟨"CitingLettersModel", jTM, 71, rfl, by decide, rfl, iw_M, rfl, Or.inl (jt_6 136 rfl rfl)⟩
theorem flp_M_126 : ∃ (C : String) (T : u_T) (N : Nat) (ty0 : Nat → FieldType), jcl[10]? = some (C, T, N) ∧ Cond.fieldLink "CitingLettersModel" 126 C (T 69).2.1 (T 69).2.2.1 ∈ jw ∧ (∀ k, k < N → parseFieldDescriptor (T k).2.2.1 = some (ty0 k)) ∧ (∀ a, a < N → ∀ b, b < N → a ≠ b → (T a).2.1 ≠ (T b).2.1) ∧ (T 69).2.2.2 = true ∧ (T 69).1 = "CitingLettersModel" ∧ parseFieldDescriptor (T 69).2.2.1 = some (.array .int) := ⟨"CitingLettersModel", jTM, 71, jtM, rfl, jt_6 136 rfl rfl, jtM_ok, jnM_ok, rfl, rfl, by decide +kernel⟩
theorem flc_M_129 : jFl "CitingLettersModel" 129 10 70 := ⟨"CitingLettersModel", jTM, 71, rfl, by decide, rfl, iw_M, rfl, Or.inl (jt_6 137 rfl rfl)⟩
theorem flp_M_129 : ∃ (C : String) (T : u_T) (N : Nat) (ty0 : Nat → FieldType), jcl[10]? = some (C, T, N) ∧ Cond.fieldLink "CitingLettersModel" 129 C (T 70).2.1 (T 70).2.2.1 ∈ jw ∧ (∀ k, k < N → parseFieldDescriptor (T k).2.2.1 = some (ty0 k)) ∧ (∀ a, a < N → ∀ b, b < N → a ≠ b → (T a).2.1 ≠ (T b).2.1) ∧ (T 70).2.2.2 = true ∧ (T 70).1 = "CitingLettersModel" ∧ parseFieldDescriptor (T 70).2.2.1 = some (.array .int) := ⟨"CitingLettersModel", jTM, 71, jtM, rfl, jt_6 137 rfl rfl, jtM_ok, jnM_ok, rfl, rfl, by decide +kernel⟩
theorem d_C_ini_0 : decode prog_1_method_1_code 0 = .ok (.aload_n 0, 1) := by decide +kernel
theorem d_C_ini_1 : decode prog_1_method_1_code 1 = .ok (.invokespecial 1, 3) := by decide +kernel
theorem d_C_ini_4 : decode prog_1_method_1_code 4 = .ok (.aload_n 0, 1) := by decide +kernel
theorem d_C_ini_5 : decode prog_1_method_1_code 5 = .ok (.sipush 400, 3) := by decide +kernel
theorem d_C_ini_8 : decode prog_1_method_1_code 8 = .ok (.newarray .int, 2) := by decide +kernel
theorem d_C_ini_10 : decode prog_1_method_1_code 10 = .ok (.putfield 9, 3) := by decide +kernel
theorem d_C_ini_13 : decode prog_1_method_1_code 13 = .ok (.aload_n 0, 1) := by decide +kernel
theorem d_C_ini_14 : decode prog_1_method_1_code 14 = .ok (.new 13, 3) := by decide +kernel
theorem d_C_ini_17 : decode prog_1_method_1_code 17 = .ok (.dup, 1) := by decide +kernel
theorem d_C_ini_18 : decode prog_1_method_1_code 18 = .ok (.invokespecial 15, 3) := by decide +kernel
theorem d_H_ini_0 : decode prog_6_method_1_code 0 = .ok (.aload_n 0, 1) := by decide +kernel
theorem d_H_ini_1 : decode prog_6_method_1_code 1 = .ok (.invokespecial 3, 3) := by decide +kernel
theorem d_H_ini_4 : decode prog_6_method_1_code 4 = .ok (.aload_n 0, 1) := by decide +kernel
theorem d_H_ini_5 : decode prog_6_method_1_code 5 = .ok (.bipush 6, 2) := by decide +kernel
theorem d_H_ini_7 : decode prog_6_method_1_code 7 = .ok (.anewarray 9, 3) := by decide +kernel
theorem d_H_ini_10 : decode prog_6_method_1_code 10 = .ok (.putfield 11, 3) := by decide +kernel
theorem d_H_ini_13 : decode prog_6_method_1_code 13 = .ok (.aload_n 0, 1) := by decide +kernel
theorem d_H_ini_14 : decode prog_6_method_1_code 14 = .ok (.bipush 8, 2) := by decide +kernel
theorem d_H_ini_16 : decode prog_6_method_1_code 16 = .ok (.newarray .boolean, 2) := by decide +kernel
theorem d_H_ini_18 : decode prog_6_method_1_code 18 = .ok (.putfield 17, 3) := by decide +kernel
theorem d_H_ini_21 : decode prog_6_method_1_code 21 = .ok (.aload_n 0, 1) := by decide +kernel
theorem d_H_ini_22 : decode prog_6_method_1_code 22 = .ok (.bipush 8, 2) := by decide +kernel
theorem d_H_ini_24 : decode prog_6_method_1_code 24 = .ok (.newarray .int, 2) := by decide +kernel
theorem d_H_ini_26 : decode prog_6_method_1_code 26 = .ok (.putfield 21, 3) := by decide +kernel
theorem d_H_ini_29 : decode prog_6_method_1_code 29 = .ok (.aload_n 0, 1) := by decide +kernel
theorem d_H_ini_30 : decode prog_6_method_1_code 30 = .ok (.bipush 8, 2) := by decide +kernel
theorem d_H_ini_32 : decode prog_6_method_1_code 32 = .ok (.newarray .int, 2) := by decide +kernel
theorem d_H_ini_34 : decode prog_6_method_1_code 34 = .ok (.putfield 25, 3) := by decide +kernel
theorem d_H_ini_37 : decode prog_6_method_1_code 37 = .ok (.aload_n 0, 1) := by decide +kernel
theorem d_H_ini_38 : decode prog_6_method_1_code 38 = .ok (.bipush 8, 2) := by decide +kernel
theorem d_H_ini_40 : decode prog_6_method_1_code 40 = .ok (.newarray .int, 2) := by decide +kernel
theorem d_H_ini_42 : decode prog_6_method_1_code 42 = .ok (.putfield 28, 3) := by decide +kernel
theorem d_H_ini_45 : decode prog_6_method_1_code 45 = .ok (.aload_n 0, 1) := by decide +kernel
theorem d_H_ini_46 : decode prog_6_method_1_code 46 = .ok (.bipush 64, 2) := by decide +kernel
theorem d_H_ini_48 : decode prog_6_method_1_code 48 = .ok (.anewarray 9, 3) := by decide +kernel
theorem d_H_ini_51 : decode prog_6_method_1_code 51 = .ok (.putfield 31, 3) := by decide +kernel
theorem d_H_ini_54 : decode prog_6_method_1_code 54 = .ok (.aload_n 0, 1) := by decide +kernel
theorem d_H_ini_55 : decode prog_6_method_1_code 55 = .ok (.bipush 64, 2) := by decide +kernel
theorem d_H_ini_57 : decode prog_6_method_1_code 57 = .ok (.newarray .int, 2) := by decide +kernel
theorem d_H_ini_59 : decode prog_6_method_1_code 59 = .ok (.putfield 34, 3) := by decide +kernel
theorem d_H_ini_62 : decode prog_6_method_1_code 62 = .ok (.aload_n 0, 1) := by decide +kernel
theorem d_H_ini_63 : decode prog_6_method_1_code 63 = .ok (.bipush 64, 2) := by decide +kernel
theorem d_H_ini_65 : decode prog_6_method_1_code 65 = .ok (.newarray .int, 2) := by decide +kernel
theorem d_H_ini_67 : decode prog_6_method_1_code 67 = .ok (.putfield 37, 3) := by decide +kernel
theorem d_H_ini_70 : decode prog_6_method_1_code 70 = .ok (.return_, 1) := by decide +kernel
theorem d_C_ini_21 : decode prog_1_method_1_code 21 = .ok (.putfield 16, 3) := by decide +kernel
theorem d_C_ini_24 : decode prog_1_method_1_code 24 = .ok (.aload_n 0, 1) := by decide +kernel
theorem d_C_ini_25 : decode prog_1_method_1_code 25 = .ok (.new 13, 3) := by decide +kernel
theorem d_C_ini_28 : decode prog_1_method_1_code 28 = .ok (.dup, 1) := by decide +kernel
theorem d_C_ini_29 : decode prog_1_method_1_code 29 = .ok (.invokespecial 15, 3) := by decide +kernel
theorem d_C_ini_32 : decode prog_1_method_1_code 32 = .ok (.putfield 20, 3) := by decide +kernel
theorem d_C_ini_35 : decode prog_1_method_1_code 35 = .ok (.aload_n 0, 1) := by decide +kernel
theorem d_C_ini_36 : decode prog_1_method_1_code 36 = .ok (.new 23, 3) := by decide +kernel
theorem d_C_ini_39 : decode prog_1_method_1_code 39 = .ok (.dup, 1) := by decide +kernel
theorem d_C_ini_40 : decode prog_1_method_1_code 40 = .ok (.aload_n 0, 1) := by decide +kernel
theorem d_C_ini_41 : decode prog_1_method_1_code 41 = .ok (.getfield 9, 3) := by decide +kernel
theorem d_C_ini_44 : decode prog_1_method_1_code 44 = .ok (.aload_n 0, 1) := by decide +kernel
theorem d_C_ini_45 : decode prog_1_method_1_code 45 = .ok (.getfield 20, 3) := by decide +kernel
theorem d_C_ini_48 : decode prog_1_method_1_code 48 = .ok (.invokespecial 25, 3) := by decide +kernel
theorem d_R_ini_0 : decode prog_11_method_1_code 0 = .ok (.aload_n 0, 1) := by decide +kernel
theorem d_R_ini_1 : decode prog_11_method_1_code 1 = .ok (.invokespecial 3, 3) := by decide +kernel
theorem d_R_ini_4 : decode prog_11_method_1_code 4 = .ok (.aload_n 0, 1) := by decide +kernel
theorem d_R_ini_5 : decode prog_11_method_1_code 5 = .ok (.getstatic 9, 3) := by decide +kernel
theorem d_R_ini_8 : decode prog_11_method_1_code 8 = .ok (.putfield 15, 3) := by decide +kernel
theorem d_R_ini_11 : decode prog_11_method_1_code 11 = .ok (.aload_n 0, 1) := by decide +kernel
theorem d_R_ini_12 : decode prog_11_method_1_code 12 = .ok (.iconst (-1), 1) := by decide +kernel
theorem d_R_ini_13 : decode prog_11_method_1_code 13 = .ok (.putfield 20, 3) := by decide +kernel
theorem d_R_ini_16 : decode prog_11_method_1_code 16 = .ok (.aload_n 0, 1) := by decide +kernel
theorem d_R_ini_17 : decode prog_11_method_1_code 17 = .ok (.bipush 72, 2) := by decide +kernel
theorem d_R_ini_19 : decode prog_11_method_1_code 19 = .ok (.anewarray 10, 3) := by decide +kernel
theorem d_R_ini_22 : decode prog_11_method_1_code 22 = .ok (.putfield 24, 3) := by decide +kernel
theorem d_R_ini_25 : decode prog_11_method_1_code 25 = .ok (.aload_n 0, 1) := by decide +kernel
theorem d_R_ini_26 : decode prog_11_method_1_code 26 = .ok (.bipush 9, 2) := by decide +kernel
theorem d_R_ini_28 : decode prog_11_method_1_code 28 = .ok (.newarray .boolean, 2) := by decide +kernel
theorem d_R_ini_30 : decode prog_11_method_1_code 30 = .ok (.putfield 28, 3) := by decide +kernel
theorem d_R_ini_33 : decode prog_11_method_1_code 33 = .ok (.aload_n 0, 1) := by decide +kernel
theorem d_R_ini_34 : decode prog_11_method_1_code 34 = .ok (.new 32, 3) := by decide +kernel
theorem d_R_ini_37 : decode prog_11_method_1_code 37 = .ok (.dup, 1) := by decide +kernel
theorem d_R_ini_38 : decode prog_11_method_1_code 38 = .ok (.aload_n 1, 1) := by decide +kernel
theorem d_R_ini_39 : decode prog_11_method_1_code 39 = .ok (.invokespecial 34, 3) := by decide +kernel
theorem d_S_ini_0 : decode prog_10_method_1_code 0 = .ok (.aload_n 0, 1) := by decide +kernel
theorem d_S_ini_1 : decode prog_10_method_1_code 1 = .ok (.invokespecial 3, 3) := by decide +kernel
theorem d_S_ini_4 : decode prog_10_method_1_code 4 = .ok (.aload_n 0, 1) := by decide +kernel
theorem d_S_ini_5 : decode prog_10_method_1_code 5 = .ok (.sipush 401, 3) := by decide +kernel
theorem d_S_ini_8 : decode prog_10_method_1_code 8 = .ok (.anewarray 9, 3) := by decide +kernel
theorem d_S_ini_11 : decode prog_10_method_1_code 11 = .ok (.putfield 11, 3) := by decide +kernel
theorem d_S_ini_14 : decode prog_10_method_1_code 14 = .ok (.aload_n 0, 1) := by decide +kernel
theorem d_S_ini_15 : decode prog_10_method_1_code 15 = .ok (.sipush 401, 3) := by decide +kernel
theorem d_S_ini_18 : decode prog_10_method_1_code 18 = .ok (.newarray .int, 2) := by decide +kernel
theorem d_S_ini_20 : decode prog_10_method_1_code 20 = .ok (.putfield 17, 3) := by decide +kernel
theorem d_S_ini_23 : decode prog_10_method_1_code 23 = .ok (.aload_n 0, 1) := by decide +kernel
theorem d_S_ini_24 : decode prog_10_method_1_code 24 = .ok (.sipush 401, 3) := by decide +kernel
theorem d_S_ini_27 : decode prog_10_method_1_code 27 = .ok (.newarray .int, 2) := by decide +kernel
theorem d_S_ini_29 : decode prog_10_method_1_code 29 = .ok (.putfield 21, 3) := by decide +kernel
theorem d_S_ini_32 : decode prog_10_method_1_code 32 = .ok (.aload_n 0, 1) := by decide +kernel
theorem d_S_ini_33 : decode prog_10_method_1_code 33 = .ok (.aload_n 1, 1) := by decide +kernel
theorem d_S_ini_34 : decode prog_10_method_1_code 34 = .ok (.putfield 24, 3) := by decide +kernel
theorem d_S_ini_37 : decode prog_10_method_1_code 37 = .ok (.return_, 1) := by decide +kernel
theorem d_R_ini_42 : decode prog_11_method_1_code 42 = .ok (.putfield 37, 3) := by decide +kernel
theorem d_R_ini_45 : decode prog_11_method_1_code 45 = .ok (.aload_n 0, 1) := by decide +kernel
theorem d_R_ini_46 : decode prog_11_method_1_code 46 = .ok (.aload_n 2, 1) := by decide +kernel
theorem d_R_ini_47 : decode prog_11_method_1_code 47 = .ok (.putfield 41, 3) := by decide +kernel
theorem d_R_ini_50 : decode prog_11_method_1_code 50 = .ok (.return_, 1) := by decide +kernel
theorem d_C_ini_51 : decode prog_1_method_1_code 51 = .ok (.putfield 28, 3) := by decide +kernel
theorem d_C_ini_54 : decode prog_1_method_1_code 54 = .ok (.aload_n 0, 1) := by decide +kernel
theorem d_C_ini_55 : decode prog_1_method_1_code 55 = .ok (.bipush 7, 2) := by decide +kernel
theorem d_C_ini_57 : decode prog_1_method_1_code 57 = .ok (.newarray .int, 2) := by decide +kernel
theorem d_C_ini_59 : decode prog_1_method_1_code 59 = .ok (.putfield 32, 3) := by decide +kernel
theorem d_C_ini_62 : decode prog_1_method_1_code 62 = .ok (.aload_n 0, 1) := by decide +kernel
theorem d_C_ini_63 : decode prog_1_method_1_code 63 = .ok (.new 35, 3) := by decide +kernel
theorem d_C_ini_66 : decode prog_1_method_1_code 66 = .ok (.dup, 1) := by decide +kernel
theorem d_C_ini_67 : decode prog_1_method_1_code 67 = .ok (.invokespecial 37, 3) := by decide +kernel
theorem d_L_ini_0 : decode prog_7_method_1_code 0 = .ok (.aload_n 0, 1) := by decide +kernel
theorem d_L_ini_1 : decode prog_7_method_1_code 1 = .ok (.invokespecial 3, 3) := by decide +kernel
theorem d_L_ini_4 : decode prog_7_method_1_code 4 = .ok (.aload_n 0, 1) := by decide +kernel
theorem d_L_ini_5 : decode prog_7_method_1_code 5 = .ok (.bipush 30, 2) := by decide +kernel
theorem d_L_ini_7 : decode prog_7_method_1_code 7 = .ok (.newarray .int, 2) := by decide +kernel
theorem d_L_ini_9 : decode prog_7_method_1_code 9 = .ok (.putfield 9, 3) := by decide +kernel
theorem d_L_ini_12 : decode prog_7_method_1_code 12 = .ok (.aload_n 0, 1) := by decide +kernel
theorem d_L_ini_13 : decode prog_7_method_1_code 13 = .ok (.bipush 30, 2) := by decide +kernel
theorem d_L_ini_15 : decode prog_7_method_1_code 15 = .ok (.newarray .int, 2) := by decide +kernel
theorem d_L_ini_17 : decode prog_7_method_1_code 17 = .ok (.putfield 15, 3) := by decide +kernel
theorem d_L_ini_20 : decode prog_7_method_1_code 20 = .ok (.aload_n 0, 1) := by decide +kernel
theorem d_L_ini_21 : decode prog_7_method_1_code 21 = .ok (.bipush 30, 2) := by decide +kernel
theorem d_L_ini_23 : decode prog_7_method_1_code 23 = .ok (.newarray .int, 2) := by decide +kernel
theorem d_L_ini_25 : decode prog_7_method_1_code 25 = .ok (.putfield 18, 3) := by decide +kernel
theorem d_L_ini_28 : decode prog_7_method_1_code 28 = .ok (.aload_n 0, 1) := by decide +kernel
theorem d_L_ini_29 : decode prog_7_method_1_code 29 = .ok (.bipush 30, 2) := by decide +kernel
theorem d_L_ini_31 : decode prog_7_method_1_code 31 = .ok (.newarray .int, 2) := by decide +kernel
theorem d_L_ini_33 : decode prog_7_method_1_code 33 = .ok (.putfield 21, 3) := by decide +kernel
theorem d_L_ini_36 : decode prog_7_method_1_code 36 = .ok (.aload_n 0, 1) := by decide +kernel
theorem d_L_ini_37 : decode prog_7_method_1_code 37 = .ok (.bipush 30, 2) := by decide +kernel
theorem d_L_ini_39 : decode prog_7_method_1_code 39 = .ok (.newarray .int, 2) := by decide +kernel
theorem d_L_ini_41 : decode prog_7_method_1_code 41 = .ok (.putfield 24, 3) := by decide +kernel
theorem d_L_ini_44 : decode prog_7_method_1_code 44 = .ok (.aload_n 0, 1) := by decide +kernel
theorem d_L_ini_45 : decode prog_7_method_1_code 45 = .ok (.bipush 30, 2) := by decide +kernel
theorem d_L_ini_47 : decode prog_7_method_1_code 47 = .ok (.newarray .int, 2) := by decide +kernel
theorem d_L_ini_49 : decode prog_7_method_1_code 49 = .ok (.putfield 27, 3) := by decide +kernel
theorem d_L_ini_52 : decode prog_7_method_1_code 52 = .ok (.aload_n 0, 1) := by decide +kernel
theorem d_L_ini_53 : decode prog_7_method_1_code 53 = .ok (.bipush 30, 2) := by decide +kernel
theorem d_L_ini_55 : decode prog_7_method_1_code 55 = .ok (.newarray .int, 2) := by decide +kernel
theorem d_L_ini_57 : decode prog_7_method_1_code 57 = .ok (.putfield 30, 3) := by decide +kernel
theorem d_L_ini_60 : decode prog_7_method_1_code 60 = .ok (.aload_n 0, 1) := by decide +kernel
theorem d_L_ini_61 : decode prog_7_method_1_code 61 = .ok (.bipush 30, 2) := by decide +kernel
theorem d_L_ini_63 : decode prog_7_method_1_code 63 = .ok (.newarray .int, 2) := by decide +kernel
theorem d_L_ini_65 : decode prog_7_method_1_code 65 = .ok (.putfield 33, 3) := by decide +kernel
theorem d_L_ini_68 : decode prog_7_method_1_code 68 = .ok (.aload_n 0, 1) := by decide +kernel
theorem d_L_ini_69 : decode prog_7_method_1_code 69 = .ok (.bipush 30, 2) := by decide +kernel
theorem d_L_ini_71 : decode prog_7_method_1_code 71 = .ok (.newarray .int, 2) := by decide +kernel
theorem d_L_ini_73 : decode prog_7_method_1_code 73 = .ok (.putfield 36, 3) := by decide +kernel
theorem d_L_ini_76 : decode prog_7_method_1_code 76 = .ok (.aload_n 0, 1) := by decide +kernel
theorem d_L_ini_77 : decode prog_7_method_1_code 77 = .ok (.bipush 30, 2) := by decide +kernel
theorem d_L_ini_79 : decode prog_7_method_1_code 79 = .ok (.newarray .int, 2) := by decide +kernel
theorem d_L_ini_81 : decode prog_7_method_1_code 81 = .ok (.putfield 39, 3) := by decide +kernel
theorem d_L_ini_84 : decode prog_7_method_1_code 84 = .ok (.aload_n 0, 1) := by decide +kernel
theorem d_L_ini_85 : decode prog_7_method_1_code 85 = .ok (.bipush 30, 2) := by decide +kernel
theorem d_L_ini_87 : decode prog_7_method_1_code 87 = .ok (.newarray .int, 2) := by decide +kernel
theorem d_L_ini_89 : decode prog_7_method_1_code 89 = .ok (.putfield 42, 3) := by decide +kernel
theorem d_L_ini_92 : decode prog_7_method_1_code 92 = .ok (.aload_n 0, 1) := by decide +kernel
theorem d_L_ini_93 : decode prog_7_method_1_code 93 = .ok (.bipush 30, 2) := by decide +kernel
theorem d_L_ini_95 : decode prog_7_method_1_code 95 = .ok (.newarray .int, 2) := by decide +kernel
theorem d_L_ini_97 : decode prog_7_method_1_code 97 = .ok (.putfield 45, 3) := by decide +kernel
theorem d_L_ini_100 : decode prog_7_method_1_code 100 = .ok (.aload_n 0, 1) := by decide +kernel
theorem d_L_ini_101 : decode prog_7_method_1_code 101 = .ok (.bipush 6, 2) := by decide +kernel
theorem d_L_ini_103 : decode prog_7_method_1_code 103 = .ok (.newarray .int, 2) := by decide +kernel
theorem d_L_ini_105 : decode prog_7_method_1_code 105 = .ok (.putfield 48, 3) := by decide +kernel
theorem d_L_ini_108 : decode prog_7_method_1_code 108 = .ok (.aload_n 0, 1) := by decide +kernel
theorem d_L_ini_109 : decode prog_7_method_1_code 109 = .ok (.bipush 6, 2) := by decide +kernel
theorem d_L_ini_111 : decode prog_7_method_1_code 111 = .ok (.newarray .int, 2) := by decide +kernel
theorem d_L_ini_113 : decode prog_7_method_1_code 113 = .ok (.putfield 51, 3) := by decide +kernel
theorem d_L_ini_116 : decode prog_7_method_1_code 116 = .ok (.aload_n 0, 1) := by decide +kernel
theorem d_L_ini_117 : decode prog_7_method_1_code 117 = .ok (.bipush 30, 2) := by decide +kernel
theorem d_L_ini_119 : decode prog_7_method_1_code 119 = .ok (.newarray .int, 2) := by decide +kernel
theorem d_L_ini_121 : decode prog_7_method_1_code 121 = .ok (.putfield 54, 3) := by decide +kernel
theorem d_L_ini_124 : decode prog_7_method_1_code 124 = .ok (.return_, 1) := by decide +kernel
theorem d_C_ini_70 : decode prog_1_method_1_code 70 = .ok (.putfield 38, 3) := by decide +kernel
theorem d_C_ini_73 : decode prog_1_method_1_code 73 = .ok (.aload_n 0, 1) := by decide +kernel
theorem d_C_ini_74 : decode prog_1_method_1_code 74 = .ok (.new 42, 3) := by decide +kernel
theorem d_C_ini_77 : decode prog_1_method_1_code 77 = .ok (.dup, 1) := by decide +kernel
theorem d_C_ini_78 : decode prog_1_method_1_code 78 = .ok (.invokespecial 44, 3) := by decide +kernel
theorem d_P_ini_0 : decode prog_9_method_1_code 0 = .ok (.aload_n 0, 1) := by decide +kernel
theorem d_P_ini_1 : decode prog_9_method_1_code 1 = .ok (.invokespecial 3, 3) := by decide +kernel
theorem d_P_ini_4 : decode prog_9_method_1_code 4 = .ok (.aload_n 0, 1) := by decide +kernel
theorem d_P_ini_5 : decode prog_9_method_1_code 5 = .ok (.bipush 6, 2) := by decide +kernel
theorem d_P_ini_7 : decode prog_9_method_1_code 7 = .ok (.bipush 6, 2) := by decide +kernel
theorem d_P_ini_9 : decode prog_9_method_1_code 9 = .ok (.multianewarray 9 2, 4) := by decide +kernel
theorem d_P_ini_13 : decode prog_9_method_1_code 13 = .ok (.putfield 11, 3) := by decide +kernel
theorem d_P_ini_16 : decode prog_9_method_1_code 16 = .ok (.aload_n 0, 1) := by decide +kernel
theorem d_P_ini_17 : decode prog_9_method_1_code 17 = .ok (.bipush 6, 2) := by decide +kernel
theorem d_P_ini_19 : decode prog_9_method_1_code 19 = .ok (.bipush 6, 2) := by decide +kernel
theorem d_P_ini_21 : decode prog_9_method_1_code 21 = .ok (.multianewarray 9 2, 4) := by decide +kernel
theorem d_P_ini_25 : decode prog_9_method_1_code 25 = .ok (.putfield 16, 3) := by decide +kernel
theorem d_P_ini_28 : decode prog_9_method_1_code 28 = .ok (.aload_n 0, 1) := by decide +kernel
theorem d_P_ini_29 : decode prog_9_method_1_code 29 = .ok (.sipush 150, 3) := by decide +kernel
theorem d_P_ini_32 : decode prog_9_method_1_code 32 = .ok (.newarray .int, 2) := by decide +kernel
theorem d_P_ini_34 : decode prog_9_method_1_code 34 = .ok (.putfield 19, 3) := by decide +kernel
theorem d_P_ini_37 : decode prog_9_method_1_code 37 = .ok (.aload_n 0, 1) := by decide +kernel
theorem d_P_ini_38 : decode prog_9_method_1_code 38 = .ok (.sipush 150, 3) := by decide +kernel
theorem d_P_ini_41 : decode prog_9_method_1_code 41 = .ok (.newarray .int, 2) := by decide +kernel
theorem d_P_ini_43 : decode prog_9_method_1_code 43 = .ok (.putfield 23, 3) := by decide +kernel
theorem d_P_ini_46 : decode prog_9_method_1_code 46 = .ok (.aload_n 0, 1) := by decide +kernel
theorem d_P_ini_47 : decode prog_9_method_1_code 47 = .ok (.sipush 150, 3) := by decide +kernel
theorem d_P_ini_50 : decode prog_9_method_1_code 50 = .ok (.newarray .int, 2) := by decide +kernel
theorem d_P_ini_52 : decode prog_9_method_1_code 52 = .ok (.putfield 26, 3) := by decide +kernel
theorem d_P_ini_55 : decode prog_9_method_1_code 55 = .ok (.aload_n 0, 1) := by decide +kernel
theorem d_P_ini_56 : decode prog_9_method_1_code 56 = .ok (.sipush 150, 3) := by decide +kernel
theorem d_P_ini_59 : decode prog_9_method_1_code 59 = .ok (.newarray .int, 2) := by decide +kernel
theorem d_P_ini_61 : decode prog_9_method_1_code 61 = .ok (.putfield 29, 3) := by decide +kernel
theorem d_P_ini_64 : decode prog_9_method_1_code 64 = .ok (.aload_n 0, 1) := by decide +kernel
theorem d_P_ini_65 : decode prog_9_method_1_code 65 = .ok (.sipush 150, 3) := by decide +kernel
theorem d_P_ini_68 : decode prog_9_method_1_code 68 = .ok (.newarray .int, 2) := by decide +kernel
theorem d_P_ini_70 : decode prog_9_method_1_code 70 = .ok (.putfield 32, 3) := by decide +kernel
theorem d_P_ini_73 : decode prog_9_method_1_code 73 = .ok (.iconst 0, 1) := by decide +kernel
theorem d_P_ini_74 : decode prog_9_method_1_code 74 = .ok (.istore_n 1, 1) := by decide +kernel
theorem d_P_ini_75 : decode prog_9_method_1_code 75 = .ok (.iload_n 1, 1) := by decide +kernel
theorem d_P_ini_76 : decode prog_9_method_1_code 76 = .ok (.bipush 6, 2) := by decide +kernel
theorem d_P_ini_78 : decode prog_9_method_1_code 78 = .ok (.if_icmp .ge 57, 3) := by decide +kernel
theorem d_P_ini_81 : decode prog_9_method_1_code 81 = .ok (.iconst 0, 1) := by decide +kernel
theorem d_P_ini_82 : decode prog_9_method_1_code 82 = .ok (.istore_n 2, 1) := by decide +kernel
theorem d_P_ini_83 : decode prog_9_method_1_code 83 = .ok (.iload_n 2, 1) := by decide +kernel
theorem d_P_ini_84 : decode prog_9_method_1_code 84 = .ok (.bipush 6, 2) := by decide +kernel
theorem d_P_ini_86 : decode prog_9_method_1_code 86 = .ok (.if_icmp .ge 43, 3) := by decide +kernel
theorem d_P_ini_89 : decode prog_9_method_1_code 89 = .ok (.aload_n 0, 1) := by decide +kernel
theorem d_P_ini_90 : decode prog_9_method_1_code 90 = .ok (.getfield 11, 3) := by decide +kernel
theorem d_P_ini_93 : decode prog_9_method_1_code 93 = .ok (.iload_n 1, 1) := by decide +kernel
theorem d_P_ini_94 : decode prog_9_method_1_code 94 = .ok (.aaload, 1) := by decide +kernel
theorem d_P_ini_95 : decode prog_9_method_1_code 95 = .ok (.iload_n 2, 1) := by decide +kernel
theorem d_P_ini_96 : decode prog_9_method_1_code 96 = .ok (.iload_n 1, 1) := by decide +kernel
theorem d_P_ini_97 : decode prog_9_method_1_code 97 = .ok (.iload_n 2, 1) := by decide +kernel
theorem d_P_ini_98 : decode prog_9_method_1_code 98 = .ok (.if_icmp .ne 7, 3) := by decide +kernel
theorem d_P_ini_101 : decode prog_9_method_1_code 101 = .ok (.iconst 0, 1) := by decide +kernel
theorem d_P_ini_102 : decode prog_9_method_1_code 102 = .ok (.goto 4, 3) := by decide +kernel
theorem d_P_ini_106 : decode prog_9_method_1_code 106 = .ok (.iastore, 1) := by decide +kernel
theorem d_P_ini_107 : decode prog_9_method_1_code 107 = .ok (.aload_n 0, 1) := by decide +kernel
theorem d_P_ini_108 : decode prog_9_method_1_code 108 = .ok (.getfield 16, 3) := by decide +kernel
theorem d_P_ini_111 : decode prog_9_method_1_code 111 = .ok (.iload_n 1, 1) := by decide +kernel
theorem d_P_ini_112 : decode prog_9_method_1_code 112 = .ok (.aaload, 1) := by decide +kernel
theorem d_P_ini_113 : decode prog_9_method_1_code 113 = .ok (.iload_n 2, 1) := by decide +kernel
theorem d_P_ini_114 : decode prog_9_method_1_code 114 = .ok (.aload_n 0, 1) := by decide +kernel
theorem d_P_ini_115 : decode prog_9_method_1_code 115 = .ok (.getfield 11, 3) := by decide +kernel
theorem d_P_ini_118 : decode prog_9_method_1_code 118 = .ok (.iload_n 1, 1) := by decide +kernel
theorem d_P_ini_119 : decode prog_9_method_1_code 119 = .ok (.aaload, 1) := by decide +kernel
theorem d_P_ini_120 : decode prog_9_method_1_code 120 = .ok (.iload_n 2, 1) := by decide +kernel
theorem d_P_ini_121 : decode prog_9_method_1_code 121 = .ok (.iaload, 1) := by decide +kernel
theorem d_P_ini_122 : decode prog_9_method_1_code 122 = .ok (.iastore, 1) := by decide +kernel
theorem d_P_ini_123 : decode prog_9_method_1_code 123 = .ok (.iinc 2 1, 3) := by decide +kernel
theorem d_P_ini_126 : decode prog_9_method_1_code 126 = .ok (.goto (-43), 3) := by decide +kernel
theorem d_P_ini_105 : decode prog_9_method_1_code 105 = .ok (.iconst 5, 1) := by decide +kernel
theorem d_P_ini_129 : decode prog_9_method_1_code 129 = .ok (.iinc 1 1, 3) := by decide +kernel
theorem d_P_ini_132 : decode prog_9_method_1_code 132 = .ok (.goto (-57), 3) := by decide +kernel
theorem d_P_ini_135 : decode prog_9_method_1_code 135 = .ok (.return_, 1) := by decide +kernel
theorem d_C_ini_81 : decode prog_1_method_1_code 81 = .ok (.putfield 45, 3) := by decide +kernel
theorem d_C_ini_84 : decode prog_1_method_1_code 84 = .ok (.aload_n 0, 1) := by decide +kernel
theorem d_C_ini_85 : decode prog_1_method_1_code 85 = .ok (.new 49, 3) := by decide +kernel
theorem d_C_ini_88 : decode prog_1_method_1_code 88 = .ok (.dup, 1) := by decide +kernel
theorem d_C_ini_89 : decode prog_1_method_1_code 89 = .ok (.invokespecial 51, 3) := by decide +kernel
theorem d_D_ini_0 : decode prog_4_method_1_code 0 = .ok (.aload_n 0, 1) := by decide +kernel
theorem d_D_ini_1 : decode prog_4_method_1_code 1 = .ok (.invokespecial 3, 3) := by decide +kernel
theorem d_D_ini_4 : decode prog_4_method_1_code 4 = .ok (.aload_n 0, 1) := by decide +kernel
theorem d_D_ini_5 : decode prog_4_method_1_code 5 = .ok (.bipush 6, 2) := by decide +kernel
theorem d_D_ini_7 : decode prog_4_method_1_code 7 = .ok (.bipush 30, 2) := by decide +kernel
theorem d_D_ini_9 : decode prog_4_method_1_code 9 = .ok (.multianewarray 9 2, 4) := by decide +kernel
theorem d_D_ini_13 : decode prog_4_method_1_code 13 = .ok (.putfield 11, 3) := by decide +kernel
theorem d_D_ini_16 : decode prog_4_method_1_code 16 = .ok (.aload_n 0, 1) := by decide +kernel
theorem d_D_ini_17 : decode prog_4_method_1_code 17 = .ok (.bipush 6, 2) := by decide +kernel
theorem d_D_ini_19 : decode prog_4_method_1_code 19 = .ok (.newarray .int, 2) := by decide +kernel
theorem d_D_ini_21 : decode prog_4_method_1_code 21 = .ok (.putfield 16, 3) := by decide +kernel
theorem d_D_ini_24 : decode prog_4_method_1_code 24 = .ok (.aload_n 0, 1) := by decide +kernel
theorem d_D_ini_25 : decode prog_4_method_1_code 25 = .ok (.bipush 6, 2) := by decide +kernel
theorem d_D_ini_27 : decode prog_4_method_1_code 27 = .ok (.newarray .int, 2) := by decide +kernel
theorem d_D_ini_29 : decode prog_4_method_1_code 29 = .ok (.putfield 20, 3) := by decide +kernel
theorem d_D_ini_32 : decode prog_4_method_1_code 32 = .ok (.aload_n 0, 1) := by decide +kernel
theorem d_D_ini_33 : decode prog_4_method_1_code 33 = .ok (.bipush 6, 2) := by decide +kernel
theorem d_D_ini_35 : decode prog_4_method_1_code 35 = .ok (.newarray .int, 2) := by decide +kernel
theorem d_D_ini_37 : decode prog_4_method_1_code 37 = .ok (.putfield 23, 3) := by decide +kernel
theorem d_D_ini_40 : decode prog_4_method_1_code 40 = .ok (.aload_n 0, 1) := by decide +kernel
theorem d_D_ini_41 : decode prog_4_method_1_code 41 = .ok (.bipush 6, 2) := by decide +kernel
theorem d_D_ini_43 : decode prog_4_method_1_code 43 = .ok (.bipush 30, 2) := by decide +kernel
theorem d_D_ini_45 : decode prog_4_method_1_code 45 = .ok (.multianewarray 9 2, 4) := by decide +kernel
theorem d_D_ini_49 : decode prog_4_method_1_code 49 = .ok (.putfield 26, 3) := by decide +kernel
theorem d_D_ini_52 : decode prog_4_method_1_code 52 = .ok (.return_, 1) := by decide +kernel
theorem d_C_ini_92 : decode prog_1_method_1_code 92 = .ok (.putfield 52, 3) := by decide +kernel
theorem d_C_ini_95 : decode prog_1_method_1_code 95 = .ok (.aload_n 0, 1) := by decide +kernel
theorem d_C_ini_96 : decode prog_1_method_1_code 96 = .ok (.new 56, 3) := by decide +kernel
theorem d_C_ini_99 : decode prog_1_method_1_code 99 = .ok (.dup, 1) := by decide +kernel
theorem d_C_ini_100 : decode prog_1_method_1_code 100 = .ok (.aload_n 0, 1) := by decide +kernel
theorem d_C_ini_101 : decode prog_1_method_1_code 101 = .ok (.getfield 38, 3) := by decide +kernel
theorem d_C_ini_104 : decode prog_1_method_1_code 104 = .ok (.aload_n 0, 1) := by decide +kernel
theorem d_C_ini_105 : decode prog_1_method_1_code 105 = .ok (.getfield 45, 3) := by decide +kernel
theorem d_C_ini_108 : decode prog_1_method_1_code 108 = .ok (.invokespecial 58, 3) := by decide +kernel
theorem d_U_ini_0 : decode prog_5_method_1_code 0 = .ok (.aload_n 0, 1) := by decide +kernel
theorem d_U_ini_1 : decode prog_5_method_1_code 1 = .ok (.invokespecial 3, 3) := by decide +kernel
theorem d_U_ini_4 : decode prog_5_method_1_code 4 = .ok (.aload_n 0, 1) := by decide +kernel
theorem d_U_ini_5 : decode prog_5_method_1_code 5 = .ok (.aload_n 1, 1) := by decide +kernel
theorem d_U_ini_6 : decode prog_5_method_1_code 6 = .ok (.putfield 9, 3) := by decide +kernel
theorem d_U_ini_9 : decode prog_5_method_1_code 9 = .ok (.aload_n 0, 1) := by decide +kernel
theorem d_U_ini_10 : decode prog_5_method_1_code 10 = .ok (.aload_n 2, 1) := by decide +kernel
theorem d_U_ini_11 : decode prog_5_method_1_code 11 = .ok (.putfield 15, 3) := by decide +kernel
theorem d_U_ini_14 : decode prog_5_method_1_code 14 = .ok (.return_, 1) := by decide +kernel
theorem d_C_ini_111 : decode prog_1_method_1_code 111 = .ok (.putfield 61, 3) := by decide +kernel
theorem d_C_ini_114 : decode prog_1_method_1_code 114 = .ok (.aload_n 0, 1) := by decide +kernel
theorem d_C_ini_115 : decode prog_1_method_1_code 115 = .ok (.new 65, 3) := by decide +kernel
theorem d_C_ini_118 : decode prog_1_method_1_code 118 = .ok (.dup, 1) := by decide +kernel
theorem d_C_ini_119 : decode prog_1_method_1_code 119 = .ok (.aload_n 0, 1) := by decide +kernel
theorem d_C_ini_120 : decode prog_1_method_1_code 120 = .ok (.getfield 38, 3) := by decide +kernel
theorem d_C_ini_123 : decode prog_1_method_1_code 123 = .ok (.invokespecial 67, 3) := by decide +kernel
theorem d_N_ini_0 : decode prog_3_method_1_code 0 = .ok (.aload_n 0, 1) := by decide +kernel
theorem d_N_ini_1 : decode prog_3_method_1_code 1 = .ok (.invokespecial 3, 3) := by decide +kernel
theorem d_N_ini_4 : decode prog_3_method_1_code 4 = .ok (.aload_n 0, 1) := by decide +kernel
theorem d_N_ini_5 : decode prog_3_method_1_code 5 = .ok (.bipush 30, 2) := by decide +kernel
theorem d_N_ini_7 : decode prog_3_method_1_code 7 = .ok (.newarray .int, 2) := by decide +kernel
theorem d_N_ini_9 : decode prog_3_method_1_code 9 = .ok (.putfield 9, 3) := by decide +kernel
theorem d_N_ini_12 : decode prog_3_method_1_code 12 = .ok (.aload_n 0, 1) := by decide +kernel
theorem d_N_ini_13 : decode prog_3_method_1_code 13 = .ok (.bipush 30, 2) := by decide +kernel
theorem d_N_ini_15 : decode prog_3_method_1_code 15 = .ok (.newarray .int, 2) := by decide +kernel
theorem d_N_ini_17 : decode prog_3_method_1_code 17 = .ok (.putfield 15, 3) := by decide +kernel
theorem d_N_ini_20 : decode prog_3_method_1_code 20 = .ok (.aload_n 0, 1) := by decide +kernel
theorem d_N_ini_21 : decode prog_3_method_1_code 21 = .ok (.bipush 30, 2) := by decide +kernel
theorem d_N_ini_23 : decode prog_3_method_1_code 23 = .ok (.newarray .int, 2) := by decide +kernel
theorem d_N_ini_25 : decode prog_3_method_1_code 25 = .ok (.putfield 18, 3) := by decide +kernel
theorem d_N_ini_28 : decode prog_3_method_1_code 28 = .ok (.aload_n 0, 1) := by decide +kernel
theorem d_N_ini_29 : decode prog_3_method_1_code 29 = .ok (.bipush 30, 2) := by decide +kernel
theorem d_N_ini_31 : decode prog_3_method_1_code 31 = .ok (.newarray .int, 2) := by decide +kernel
theorem d_N_ini_33 : decode prog_3_method_1_code 33 = .ok (.putfield 21, 3) := by decide +kernel
theorem d_N_ini_36 : decode prog_3_method_1_code 36 = .ok (.aload_n 0, 1) := by decide +kernel
theorem d_N_ini_37 : decode prog_3_method_1_code 37 = .ok (.aload_n 1, 1) := by decide +kernel
theorem d_N_ini_38 : decode prog_3_method_1_code 38 = .ok (.putfield 24, 3) := by decide +kernel
theorem d_N_ini_41 : decode prog_3_method_1_code 41 = .ok (.return_, 1) := by decide +kernel
theorem d_C_ini_126 : decode prog_1_method_1_code 126 = .ok (.putfield 70, 3) := by decide +kernel
theorem d_C_ini_129 : decode prog_1_method_1_code 129 = .ok (.aload_n 0, 1) := by decide +kernel
theorem d_C_ini_130 : decode prog_1_method_1_code 130 = .ok (.new 74, 3) := by decide +kernel
theorem d_C_ini_133 : decode prog_1_method_1_code 133 = .ok (.dup, 1) := by decide +kernel
theorem d_C_ini_134 : decode prog_1_method_1_code 134 = .ok (.aload_n 0, 1) := by decide +kernel
theorem d_C_ini_135 : decode prog_1_method_1_code 135 = .ok (.getfield 38, 3) := by decide +kernel
theorem d_C_ini_138 : decode prog_1_method_1_code 138 = .ok (.invokespecial 76, 3) := by decide +kernel
theorem d_O_ini_0 : decode prog_8_method_1_code 0 = .ok (.aload_n 0, 1) := by decide +kernel
theorem d_O_ini_1 : decode prog_8_method_1_code 1 = .ok (.invokespecial 3, 3) := by decide +kernel
theorem d_O_ini_4 : decode prog_8_method_1_code 4 = .ok (.aload_n 0, 1) := by decide +kernel
theorem d_O_ini_5 : decode prog_8_method_1_code 5 = .ok (.bipush 12, 2) := by decide +kernel
theorem d_O_ini_7 : decode prog_8_method_1_code 7 = .ok (.newarray .int, 2) := by decide +kernel
theorem d_O_ini_9 : decode prog_8_method_1_code 9 = .ok (.putfield 9, 3) := by decide +kernel
theorem d_O_ini_12 : decode prog_8_method_1_code 12 = .ok (.aload_n 0, 1) := by decide +kernel
theorem d_O_ini_13 : decode prog_8_method_1_code 13 = .ok (.bipush 12, 2) := by decide +kernel
theorem d_O_ini_15 : decode prog_8_method_1_code 15 = .ok (.newarray .int, 2) := by decide +kernel
theorem d_O_ini_17 : decode prog_8_method_1_code 17 = .ok (.putfield 15, 3) := by decide +kernel
theorem d_O_ini_20 : decode prog_8_method_1_code 20 = .ok (.aload_n 0, 1) := by decide +kernel
theorem d_O_ini_21 : decode prog_8_method_1_code 21 = .ok (.bipush 12, 2) := by decide +kernel
theorem d_O_ini_23 : decode prog_8_method_1_code 23 = .ok (.newarray .int, 2) := by decide +kernel
theorem d_O_ini_25 : decode prog_8_method_1_code 25 = .ok (.putfield 18, 3) := by decide +kernel
theorem d_O_ini_28 : decode prog_8_method_1_code 28 = .ok (.aload_n 0, 1) := by decide +kernel
theorem d_O_ini_29 : decode prog_8_method_1_code 29 = .ok (.bipush 12, 2) := by decide +kernel
theorem d_O_ini_31 : decode prog_8_method_1_code 31 = .ok (.newarray .int, 2) := by decide +kernel
theorem d_O_ini_33 : decode prog_8_method_1_code 33 = .ok (.putfield 21, 3) := by decide +kernel
theorem d_O_ini_36 : decode prog_8_method_1_code 36 = .ok (.aload_n 0, 1) := by decide +kernel
theorem d_O_ini_37 : decode prog_8_method_1_code 37 = .ok (.sipush 4096, 3) := by decide +kernel
theorem d_O_ini_40 : decode prog_8_method_1_code 40 = .ok (.newarray .int, 2) := by decide +kernel
theorem d_O_ini_42 : decode prog_8_method_1_code 42 = .ok (.putfield 24, 3) := by decide +kernel
theorem d_O_ini_45 : decode prog_8_method_1_code 45 = .ok (.aload_n 0, 1) := by decide +kernel
theorem d_O_ini_46 : decode prog_8_method_1_code 46 = .ok (.sipush 4096, 3) := by decide +kernel
theorem d_O_ini_49 : decode prog_8_method_1_code 49 = .ok (.newarray .int, 2) := by decide +kernel
theorem d_O_ini_51 : decode prog_8_method_1_code 51 = .ok (.putfield 27, 3) := by decide +kernel
theorem d_O_ini_54 : decode prog_8_method_1_code 54 = .ok (.aload_n 0, 1) := by decide +kernel
theorem d_O_ini_55 : decode prog_8_method_1_code 55 = .ok (.bipush 12, 2) := by decide +kernel
theorem d_O_ini_57 : decode prog_8_method_1_code 57 = .ok (.bipush 12, 2) := by decide +kernel
theorem d_O_ini_59 : decode prog_8_method_1_code 59 = .ok (.multianewarray 30 2, 4) := by decide +kernel
theorem d_O_ini_63 : decode prog_8_method_1_code 63 = .ok (.putfield 32, 3) := by decide +kernel
theorem d_O_ini_66 : decode prog_8_method_1_code 66 = .ok (.aload_n 0, 1) := by decide +kernel
theorem d_O_ini_67 : decode prog_8_method_1_code 67 = .ok (.aload_n 1, 1) := by decide +kernel
theorem d_O_ini_68 : decode prog_8_method_1_code 68 = .ok (.putfield 35, 3) := by decide +kernel
theorem d_O_ini_71 : decode prog_8_method_1_code 71 = .ok (.return_, 1) := by decide +kernel
theorem d_C_ini_141 : decode prog_1_method_1_code 141 = .ok (.putfield 77, 3) := by decide +kernel
theorem d_C_ini_144 : decode prog_1_method_1_code 144 = .ok (.return_, 1) := by decide +kernel
theorem d_M_ini_0 : decode prog_14_method_1_code 0 = .ok (.aload_n 0, 1) := by decide +kernel
theorem d_M_ini_1 : decode prog_14_method_1_code 1 = .ok (.invokespecial 1, 3) := by decide +kernel
theorem d_M_ini_4 : decode prog_14_method_1_code 4 = .ok (.aload_n 0, 1) := by decide +kernel
theorem d_M_ini_5 : decode prog_14_method_1_code 5 = .ok (.sipush 400, 3) := by decide +kernel
theorem d_M_ini_8 : decode prog_14_method_1_code 8 = .ok (.newarray .int, 2) := by decide +kernel
theorem d_M_ini_10 : decode prog_14_method_1_code 10 = .ok (.putfield 7, 3) := by decide +kernel
theorem d_M_ini_13 : decode prog_14_method_1_code 13 = .ok (.aload_n 0, 1) := by decide +kernel
theorem d_M_ini_14 : decode prog_14_method_1_code 14 = .ok (.sipush 128, 3) := by decide +kernel
theorem d_M_ini_17 : decode prog_14_method_1_code 17 = .ok (.newarray .int, 2) := by decide +kernel
theorem d_M_ini_19 : decode prog_14_method_1_code 19 = .ok (.putfield 13, 3) := by decide +kernel
theorem d_M_ini_22 : decode prog_14_method_1_code 22 = .ok (.aload_n 0, 1) := by decide +kernel
theorem d_M_ini_23 : decode prog_14_method_1_code 23 = .ok (.sipush 128, 3) := by decide +kernel
theorem d_M_ini_26 : decode prog_14_method_1_code 26 = .ok (.newarray .int, 2) := by decide +kernel
theorem d_M_ini_28 : decode prog_14_method_1_code 28 = .ok (.putfield 16, 3) := by decide +kernel
theorem d_M_ini_31 : decode prog_14_method_1_code 31 = .ok (.aload_n 0, 1) := by decide +kernel
theorem d_M_ini_32 : decode prog_14_method_1_code 32 = .ok (.bipush 18, 2) := by decide +kernel
theorem d_M_ini_34 : decode prog_14_method_1_code 34 = .ok (.newarray .boolean, 2) := by decide +kernel
theorem d_M_ini_36 : decode prog_14_method_1_code 36 = .ok (.putfield 19, 3) := by decide +kernel
theorem d_M_ini_39 : decode prog_14_method_1_code 39 = .ok (.aload_n 0, 1) := by decide +kernel
theorem d_M_ini_40 : decode prog_14_method_1_code 40 = .ok (.bipush 18, 2) := by decide +kernel
theorem d_M_ini_42 : decode prog_14_method_1_code 42 = .ok (.newarray .int, 2) := by decide +kernel
theorem d_M_ini_44 : decode prog_14_method_1_code 44 = .ok (.putfield 23, 3) := by decide +kernel
theorem d_M_ini_47 : decode prog_14_method_1_code 47 = .ok (.aload_n 0, 1) := by decide +kernel
theorem d_M_ini_48 : decode prog_14_method_1_code 48 = .ok (.bipush 18, 2) := by decide +kernel
theorem d_M_ini_50 : decode prog_14_method_1_code 50 = .ok (.newarray .int, 2) := by decide +kernel
theorem d_M_ini_52 : decode prog_14_method_1_code 52 = .ok (.putfield 26, 3) := by decide +kernel
theorem d_M_ini_55 : decode prog_14_method_1_code 55 = .ok (.aload_n 0, 1) := by decide +kernel
theorem d_M_ini_56 : decode prog_14_method_1_code 56 = .ok (.bipush 12, 2) := by decide +kernel
theorem d_M_ini_58 : decode prog_14_method_1_code 58 = .ok (.newarray .int, 2) := by decide +kernel
theorem d_M_ini_60 : decode prog_14_method_1_code 60 = .ok (.putfield 29, 3) := by decide +kernel
theorem d_M_ini_63 : decode prog_14_method_1_code 63 = .ok (.aload_n 0, 1) := by decide +kernel
theorem d_M_ini_64 : decode prog_14_method_1_code 64 = .ok (.iconst (-1), 1) := by decide +kernel
theorem d_M_ini_65 : decode prog_14_method_1_code 65 = .ok (.putfield 32, 3) := by decide +kernel
theorem d_M_ini_68 : decode prog_14_method_1_code 68 = .ok (.aload_n 0, 1) := by decide +kernel
theorem d_M_ini_69 : decode prog_14_method_1_code 69 = .ok (.bipush 96, 2) := by decide +kernel
theorem d_M_ini_71 : decode prog_14_method_1_code 71 = .ok (.newarray .int, 2) := by decide +kernel
theorem d_M_ini_73 : decode prog_14_method_1_code 73 = .ok (.putfield 36, 3) := by decide +kernel
theorem d_M_ini_76 : decode prog_14_method_1_code 76 = .ok (.aload_n 0, 1) := by decide +kernel
theorem d_M_ini_77 : decode prog_14_method_1_code 77 = .ok (.bipush 7, 2) := by decide +kernel
theorem d_M_ini_79 : decode prog_14_method_1_code 79 = .ok (.newarray .int, 2) := by decide +kernel
theorem d_M_ini_81 : decode prog_14_method_1_code 81 = .ok (.putfield 39, 3) := by decide +kernel
theorem d_M_ini_84 : decode prog_14_method_1_code 84 = .ok (.aload_n 0, 1) := by decide +kernel
theorem d_M_ini_85 : decode prog_14_method_1_code 85 = .ok (.bipush 72, 2) := by decide +kernel
theorem d_M_ini_87 : decode prog_14_method_1_code 87 = .ok (.newarray .int, 2) := by decide +kernel
theorem d_M_ini_89 : decode prog_14_method_1_code 89 = .ok (.putfield 42, 3) := by decide +kernel
theorem d_M_ini_92 : decode prog_14_method_1_code 92 = .ok (.aload_n 0, 1) := by decide +kernel
theorem d_M_ini_93 : decode prog_14_method_1_code 93 = .ok (.bipush 36, 2) := by decide +kernel
theorem d_M_ini_95 : decode prog_14_method_1_code 95 = .ok (.newarray .int, 2) := by decide +kernel
theorem d_M_ini_97 : decode prog_14_method_1_code 97 = .ok (.putfield 45, 3) := by decide +kernel
theorem d_M_ini_100 : decode prog_14_method_1_code 100 = .ok (.aload_n 0, 1) := by decide +kernel
theorem d_M_ini_101 : decode prog_14_method_1_code 101 = .ok (.bipush 30, 2) := by decide +kernel
theorem d_M_ini_103 : decode prog_14_method_1_code 103 = .ok (.newarray .int, 2) := by decide +kernel
theorem d_M_ini_105 : decode prog_14_method_1_code 105 = .ok (.putfield 48, 3) := by decide +kernel
theorem d_M_ini_108 : decode prog_14_method_1_code 108 = .ok (.aload_n 0, 1) := by decide +kernel
theorem d_M_ini_109 : decode prog_14_method_1_code 109 = .ok (.bipush 30, 2) := by decide +kernel
theorem d_M_ini_111 : decode prog_14_method_1_code 111 = .ok (.newarray .int, 2) := by decide +kernel
theorem d_M_ini_113 : decode prog_14_method_1_code 113 = .ok (.putfield 51, 3) := by decide +kernel
theorem d_M_ini_116 : decode prog_14_method_1_code 116 = .ok (.aload_n 0, 1) := by decide +kernel
theorem d_M_ini_117 : decode prog_14_method_1_code 117 = .ok (.bipush 30, 2) := by decide +kernel
theorem d_M_ini_119 : decode prog_14_method_1_code 119 = .ok (.newarray .int, 2) := by decide +kernel
theorem d_M_ini_121 : decode prog_14_method_1_code 121 = .ok (.putfield 54, 3) := by decide +kernel
theorem d_M_ini_124 : decode prog_14_method_1_code 124 = .ok (.aload_n 0, 1) := by decide +kernel
theorem d_M_ini_125 : decode prog_14_method_1_code 125 = .ok (.bipush 30, 2) := by decide +kernel
theorem d_M_ini_127 : decode prog_14_method_1_code 127 = .ok (.newarray .int, 2) := by decide +kernel
theorem d_M_ini_129 : decode prog_14_method_1_code 129 = .ok (.putfield 57, 3) := by decide +kernel
theorem d_M_ini_132 : decode prog_14_method_1_code 132 = .ok (.aload_n 0, 1) := by decide +kernel
theorem d_M_ini_133 : decode prog_14_method_1_code 133 = .ok (.bipush 30, 2) := by decide +kernel
theorem d_M_ini_135 : decode prog_14_method_1_code 135 = .ok (.newarray .int, 2) := by decide +kernel
theorem d_M_ini_137 : decode prog_14_method_1_code 137 = .ok (.putfield 60, 3) := by decide +kernel
theorem d_M_ini_140 : decode prog_14_method_1_code 140 = .ok (.aload_n 0, 1) := by decide +kernel
theorem d_M_ini_141 : decode prog_14_method_1_code 141 = .ok (.bipush 30, 2) := by decide +kernel
theorem d_M_ini_143 : decode prog_14_method_1_code 143 = .ok (.newarray .int, 2) := by decide +kernel
theorem d_M_ini_145 : decode prog_14_method_1_code 145 = .ok (.putfield 63, 3) := by decide +kernel
theorem d_M_ini_148 : decode prog_14_method_1_code 148 = .ok (.aload_n 0, 1) := by decide +kernel
theorem d_M_ini_149 : decode prog_14_method_1_code 149 = .ok (.bipush 30, 2) := by decide +kernel
theorem d_M_ini_151 : decode prog_14_method_1_code 151 = .ok (.newarray .int, 2) := by decide +kernel
theorem d_M_ini_153 : decode prog_14_method_1_code 153 = .ok (.putfield 66, 3) := by decide +kernel
theorem d_M_ini_156 : decode prog_14_method_1_code 156 = .ok (.aload_n 0, 1) := by decide +kernel
theorem d_M_ini_157 : decode prog_14_method_1_code 157 = .ok (.bipush 30, 2) := by decide +kernel
theorem d_M_ini_159 : decode prog_14_method_1_code 159 = .ok (.newarray .int, 2) := by decide +kernel
theorem d_M_ini_161 : decode prog_14_method_1_code 161 = .ok (.putfield 69, 3) := by decide +kernel
theorem d_M_ini_164 : decode prog_14_method_1_code 164 = .ok (.aload_n 0, 1) := by decide +kernel
theorem d_M_ini_165 : decode prog_14_method_1_code 165 = .ok (.bipush 30, 2) := by decide +kernel
theorem d_M_ini_167 : decode prog_14_method_1_code 167 = .ok (.newarray .boolean, 2) := by decide +kernel
theorem d_M_ini_169 : decode prog_14_method_1_code 169 = .ok (.putfield 72, 3) := by decide +kernel
theorem d_M_ini_172 : decode prog_14_method_1_code 172 = .ok (.aload_n 0, 1) := by decide +kernel
theorem d_M_ini_173 : decode prog_14_method_1_code 173 = .ok (.sipush 150, 3) := by decide +kernel
theorem d_M_ini_176 : decode prog_14_method_1_code 176 = .ok (.newarray .int, 2) := by decide +kernel
theorem d_M_ini_178 : decode prog_14_method_1_code 178 = .ok (.putfield 75, 3) := by decide +kernel
theorem d_M_ini_181 : decode prog_14_method_1_code 181 = .ok (.aload_n 0, 1) := by decide +kernel
theorem d_M_ini_182 : decode prog_14_method_1_code 182 = .ok (.sipush 150, 3) := by decide +kernel
theorem d_M_ini_185 : decode prog_14_method_1_code 185 = .ok (.newarray .int, 2) := by decide +kernel
theorem d_M_ini_187 : decode prog_14_method_1_code 187 = .ok (.putfield 78, 3) := by decide +kernel
theorem d_M_ini_190 : decode prog_14_method_1_code 190 = .ok (.aload_n 0, 1) := by decide +kernel
theorem d_M_ini_191 : decode prog_14_method_1_code 191 = .ok (.sipush 150, 3) := by decide +kernel
theorem d_M_ini_194 : decode prog_14_method_1_code 194 = .ok (.newarray .int, 2) := by decide +kernel
theorem d_M_ini_196 : decode prog_14_method_1_code 196 = .ok (.putfield 81, 3) := by decide +kernel
theorem d_M_ini_199 : decode prog_14_method_1_code 199 = .ok (.aload_n 0, 1) := by decide +kernel
theorem d_M_ini_200 : decode prog_14_method_1_code 200 = .ok (.sipush 150, 3) := by decide +kernel
theorem d_M_ini_203 : decode prog_14_method_1_code 203 = .ok (.newarray .int, 2) := by decide +kernel
theorem d_M_ini_205 : decode prog_14_method_1_code 205 = .ok (.putfield 84, 3) := by decide +kernel
theorem d_M_ini_208 : decode prog_14_method_1_code 208 = .ok (.aload_n 0, 1) := by decide +kernel
theorem d_M_ini_209 : decode prog_14_method_1_code 209 = .ok (.sipush 150, 3) := by decide +kernel
theorem d_M_ini_212 : decode prog_14_method_1_code 212 = .ok (.newarray .int, 2) := by decide +kernel
theorem d_M_ini_214 : decode prog_14_method_1_code 214 = .ok (.putfield 87, 3) := by decide +kernel
theorem d_M_ini_217 : decode prog_14_method_1_code 217 = .ok (.aload_n 0, 1) := by decide +kernel
theorem d_M_ini_218 : decode prog_14_method_1_code 218 = .ok (.bipush 6, 2) := by decide +kernel
theorem d_M_ini_220 : decode prog_14_method_1_code 220 = .ok (.newarray .int, 2) := by decide +kernel
theorem d_M_ini_222 : decode prog_14_method_1_code 222 = .ok (.putfield 90, 3) := by decide +kernel
theorem d_M_ini_225 : decode prog_14_method_1_code 225 = .ok (.aload_n 0, 1) := by decide +kernel
theorem d_M_ini_226 : decode prog_14_method_1_code 226 = .ok (.sipush 180, 3) := by decide +kernel
theorem d_M_ini_229 : decode prog_14_method_1_code 229 = .ok (.newarray .int, 2) := by decide +kernel
theorem d_M_ini_231 : decode prog_14_method_1_code 231 = .ok (.putfield 93, 3) := by decide +kernel
theorem d_M_ini_234 : decode prog_14_method_1_code 234 = .ok (.aload_n 0, 1) := by decide +kernel
theorem d_M_ini_235 : decode prog_14_method_1_code 235 = .ok (.sipush 180, 3) := by decide +kernel
theorem d_M_ini_238 : decode prog_14_method_1_code 238 = .ok (.newarray .int, 2) := by decide +kernel
theorem d_M_ini_240 : decode prog_14_method_1_code 240 = .ok (.putfield 96, 3) := by decide +kernel
theorem d_M_ini_243 : decode prog_14_method_1_code 243 = .ok (.aload_n 0, 1) := by decide +kernel
theorem d_M_ini_244 : decode prog_14_method_1_code 244 = .ok (.bipush 6, 2) := by decide +kernel
theorem d_M_ini_246 : decode prog_14_method_1_code 246 = .ok (.newarray .int, 2) := by decide +kernel
theorem d_M_ini_248 : decode prog_14_method_1_code 248 = .ok (.putfield 99, 3) := by decide +kernel
theorem d_M_ini_251 : decode prog_14_method_1_code 251 = .ok (.aload_n 0, 1) := by decide +kernel
theorem d_M_ini_252 : decode prog_14_method_1_code 252 = .ok (.bipush 30, 2) := by decide +kernel
theorem d_M_ini_254 : decode prog_14_method_1_code 254 = .ok (.newarray .int, 2) := by decide +kernel
theorem d_M_ini_256 : decode prog_14_method_1_code 256 = .ok (.putfield 102, 3) := by decide +kernel
theorem d_M_ini_259 : decode prog_14_method_1_code 259 = .ok (.aload_n 0, 1) := by decide +kernel
theorem d_M_ini_260 : decode prog_14_method_1_code 260 = .ok (.bipush 30, 2) := by decide +kernel
theorem d_M_ini_262 : decode prog_14_method_1_code 262 = .ok (.newarray .int, 2) := by decide +kernel
theorem d_M_ini_264 : decode prog_14_method_1_code 264 = .ok (.putfield 105, 3) := by decide +kernel
theorem d_M_ini_267 : decode prog_14_method_1_code 267 = .ok (.aload_n 0, 1) := by decide +kernel
theorem d_M_ini_268 : decode prog_14_method_1_code 268 = .ok (.bipush 30, 2) := by decide +kernel
theorem d_M_ini_270 : decode prog_14_method_1_code 270 = .ok (.newarray .int, 2) := by decide +kernel
theorem d_M_ini_272 : decode prog_14_method_1_code 272 = .ok (.putfield 108, 3) := by decide +kernel
theorem d_M_ini_275 : decode prog_14_method_1_code 275 = .ok (.aload_n 0, 1) := by decide +kernel
theorem d_M_ini_276 : decode prog_14_method_1_code 276 = .ok (.bipush 30, 2) := by decide +kernel
theorem d_M_ini_278 : decode prog_14_method_1_code 278 = .ok (.newarray .int, 2) := by decide +kernel
theorem d_M_ini_280 : decode prog_14_method_1_code 280 = .ok (.putfield 111, 3) := by decide +kernel
theorem d_M_ini_283 : decode prog_14_method_1_code 283 = .ok (.aload_n 0, 1) := by decide +kernel
theorem d_M_ini_284 : decode prog_14_method_1_code 284 = .ok (.bipush 36, 2) := by decide +kernel
theorem d_M_ini_286 : decode prog_14_method_1_code 286 = .ok (.newarray .int, 2) := by decide +kernel
theorem d_M_ini_288 : decode prog_14_method_1_code 288 = .ok (.putfield 114, 3) := by decide +kernel
theorem d_M_ini_291 : decode prog_14_method_1_code 291 = .ok (.aload_n 0, 1) := by decide +kernel
theorem d_M_ini_292 : decode prog_14_method_1_code 292 = .ok (.bipush 12, 2) := by decide +kernel
theorem d_M_ini_294 : decode prog_14_method_1_code 294 = .ok (.newarray .int, 2) := by decide +kernel
theorem d_M_ini_296 : decode prog_14_method_1_code 296 = .ok (.putfield 117, 3) := by decide +kernel
theorem d_M_ini_299 : decode prog_14_method_1_code 299 = .ok (.aload_n 0, 1) := by decide +kernel
theorem d_M_ini_300 : decode prog_14_method_1_code 300 = .ok (.bipush 12, 2) := by decide +kernel
theorem d_M_ini_302 : decode prog_14_method_1_code 302 = .ok (.newarray .int, 2) := by decide +kernel
theorem d_M_ini_304 : decode prog_14_method_1_code 304 = .ok (.putfield 120, 3) := by decide +kernel
theorem d_M_ini_307 : decode prog_14_method_1_code 307 = .ok (.aload_n 0, 1) := by decide +kernel
theorem d_M_ini_308 : decode prog_14_method_1_code 308 = .ok (.bipush 12, 2) := by decide +kernel
theorem d_M_ini_310 : decode prog_14_method_1_code 310 = .ok (.newarray .int, 2) := by decide +kernel
theorem d_M_ini_312 : decode prog_14_method_1_code 312 = .ok (.putfield 123, 3) := by decide +kernel
theorem d_M_ini_315 : decode prog_14_method_1_code 315 = .ok (.aload_n 0, 1) := by decide +kernel
theorem d_M_ini_316 : decode prog_14_method_1_code 316 = .ok (.bipush 12, 2) := by decide +kernel
theorem d_M_ini_318 : decode prog_14_method_1_code 318 = .ok (.newarray .int, 2) := by decide +kernel
theorem d_M_ini_320 : decode prog_14_method_1_code 320 = .ok (.putfield 126, 3) := by decide +kernel
theorem d_M_ini_323 : decode prog_14_method_1_code 323 = .ok (.aload_n 0, 1) := by decide +kernel
theorem d_M_ini_324 : decode prog_14_method_1_code 324 = .ok (.sipush 4096, 3) := by decide +kernel
theorem d_M_ini_327 : decode prog_14_method_1_code 327 = .ok (.newarray .int, 2) := by decide +kernel
theorem d_M_ini_329 : decode prog_14_method_1_code 329 = .ok (.putfield 129, 3) := by decide +kernel
theorem d_M_ini_332 : decode prog_14_method_1_code 332 = .ok (.iconst 0, 1) := by decide +kernel
theorem d_M_ini_333 : decode prog_14_method_1_code 333 = .ok (.istore_n 1, 1) := by decide +kernel
theorem d_M_ini_334 : decode prog_14_method_1_code 334 = .ok (.iload_n 1, 1) := by decide +kernel
theorem d_M_ini_335 : decode prog_14_method_1_code 335 = .ok (.bipush 36, 2) := by decide +kernel
theorem d_M_ini_337 : decode prog_14_method_1_code 337 = .ok (.if_icmp .ge 31, 3) := by decide +kernel
theorem d_M_ini_340 : decode prog_14_method_1_code 340 = .ok (.aload_n 0, 1) := by decide +kernel
theorem d_M_ini_341 : decode prog_14_method_1_code 341 = .ok (.getfield 45, 3) := by decide +kernel
theorem d_M_ini_344 : decode prog_14_method_1_code 344 = .ok (.iload_n 1, 1) := by decide +kernel
theorem d_M_ini_345 : decode prog_14_method_1_code 345 = .ok (.iload_n 1, 1) := by decide +kernel
theorem d_M_ini_346 : decode prog_14_method_1_code 346 = .ok (.bipush 6, 2) := by decide +kernel
theorem d_M_ini_348 : decode prog_14_method_1_code 348 = .ok (.idiv, 1) := by decide +kernel
theorem d_M_ini_349 : decode prog_14_method_1_code 349 = .ok (.iload_n 1, 1) := by decide +kernel
theorem d_M_ini_350 : decode prog_14_method_1_code 350 = .ok (.bipush 6, 2) := by decide +kernel
theorem d_M_ini_352 : decode prog_14_method_1_code 352 = .ok (.irem, 1) := by decide +kernel
theorem d_M_ini_353 : decode prog_14_method_1_code 353 = .ok (.if_icmp .ne 7, 3) := by decide +kernel
theorem d_M_ini_356 : decode prog_14_method_1_code 356 = .ok (.iconst 0, 1) := by decide +kernel
theorem d_M_ini_357 : decode prog_14_method_1_code 357 = .ok (.goto 4, 3) := by decide +kernel
theorem d_M_ini_361 : decode prog_14_method_1_code 361 = .ok (.iastore, 1) := by decide +kernel
theorem d_M_ini_362 : decode prog_14_method_1_code 362 = .ok (.iinc 1 1, 3) := by decide +kernel
theorem d_M_ini_365 : decode prog_14_method_1_code 365 = .ok (.goto (-31), 3) := by decide +kernel
theorem d_M_ini_360 : decode prog_14_method_1_code 360 = .ok (.iconst 5, 1) := by decide +kernel
theorem d_M_ini_368 : decode prog_14_method_1_code 368 = .ok (.iconst 0, 1) := by decide +kernel
theorem d_M_ini_369 : decode prog_14_method_1_code 369 = .ok (.istore_n 1, 1) := by decide +kernel
theorem d_M_ini_370 : decode prog_14_method_1_code 370 = .ok (.iload_n 1, 1) := by decide +kernel
theorem d_M_ini_371 : decode prog_14_method_1_code 371 = .ok (.bipush 6, 2) := by decide +kernel
theorem d_M_ini_373 : decode prog_14_method_1_code 373 = .ok (.if_icmp .ge 16, 3) := by decide +kernel
theorem d_M_ini_376 : decode prog_14_method_1_code 376 = .ok (.aload_n 0, 1) := by decide +kernel
theorem d_M_ini_377 : decode prog_14_method_1_code 377 = .ok (.getfield 29, 3) := by decide +kernel
theorem d_M_ini_380 : decode prog_14_method_1_code 380 = .ok (.iload_n 1, 1) := by decide +kernel
theorem d_M_ini_381 : decode prog_14_method_1_code 381 = .ok (.iconst 1, 1) := by decide +kernel
theorem d_M_ini_382 : decode prog_14_method_1_code 382 = .ok (.iastore, 1) := by decide +kernel
theorem d_M_ini_383 : decode prog_14_method_1_code 383 = .ok (.iinc 1 1, 3) := by decide +kernel
theorem d_M_ini_386 : decode prog_14_method_1_code 386 = .ok (.goto (-16), 3) := by decide +kernel
theorem d_M_ini_389 : decode prog_14_method_1_code 389 = .ok (.return_, 1) := by decide +kernel
def FS_0 : Nat → Nat → Nat := fun _ _ => 0
def MS_0 : jMem := fun _ _ => 0
def FS_1 : Nat → Nat → Nat := jfup FS_0 1 0 2
def FS_2 : Nat → Nat → Nat := jfup FS_1 3 0 4
def FS_3 : Nat → Nat → Nat := jfup FS_2 3 3 5
def FS_4 : Nat → Nat → Nat := jfup FS_3 3 4 6
def FS_5 : Nat → Nat → Nat := jfup FS_4 3 5 7
def FS_6 : Nat → Nat → Nat := jfup FS_5 3 6 8
def FS_7 : Nat → Nat → Nat := jfup FS_6 3 8 9
def FS_8 : Nat → Nat → Nat := jfup FS_7 3 9 10
def FS_9 : Nat → Nat → Nat := jfup FS_8 3 12 11
set_option maxRecDepth 20000 in
theorem cc_H_ini_1 {G : jG} (ha : jAO G) : jCC G Y_H_ini [jr G 3] 3 FS_1 MS_0 (11, FS_9, MS_0) := by
  refine jCC.of (ls := [(0, jr G 3)]) mi_H_ini rfl (jAvR jAvN) (Nat.le_of_ble_eq_true rfl) (by decide) ?_
  refine JC.aload_n 0 (n := 3) d_H_ini_0 rfl rfl (by decide) ?_
  refine JC.objInit (n := 3) d_H_ini_1 wOI_H (by decide) (Nat.le_trans jcN (Nat.le_of_ble_eq_true rfl)) ?_
  refine JC.aload_n 0 (n := 3) d_H_ini_4 rfl rfl (by decide) ?_
  refine JC.bipush (v := (6 : Int32)) d_H_ini_5 (by decide) ?_
  refine JC.newQ ha d_H_ini_7 (jt_1 41 rfl rfl) (Nat.le_of_ble_eq_true rfl) ⟨rfl, by decide⟩ (fun _ => rfl) (by decide) (by decide) (Nat.le_of_ble_eq_true rfl) (by decide) ?_
  refine JC.fold (pc' := 10) (k' := 4) (sl' := 6) (F' := FS_1) (M' := MS_0) rfl rfl rfl rfl rfl ?_
  refine JC.putF (ty := (.array (.object "CitingLetters$Token"))) d_H_ini_10 flc_H_11 flp_H_11 rfl ⟨by decide, by decide, rfl, rfl, rfl⟩ jr_narA jr_fitA ?_
  refine JC.fold (pc' := 13) (k' := 4) (sl' := 6) (F' := FS_2) (M' := MS_0) rfl rfl rfl rfl rfl ?_
  refine JC.aload_n 0 (n := 3) d_H_ini_13 rfl rfl (by decide) ?_
  refine JC.bipush (v := (8 : Int32)) d_H_ini_14 (by decide) ?_
  refine JC.newz d_H_ini_16 (jt_1 93 rfl rfl) (Nat.le_of_ble_eq_true rfl) ⟨rfl, by decide⟩ (fun _ => rfl) (by decide) (by decide) (Nat.le_of_ble_eq_true rfl) (by decide) ?_
  refine JC.fold (pc' := 18) (k' := 5) (sl' := 14) (F' := FS_2) (M' := MS_0) rfl rfl rfl rfl rfl ?_
  refine JC.putF (ty := (.array .boolean)) d_H_ini_18 flc_H_17 flp_H_17 rfl ⟨by decide, by decide, rfl, rfl, rfl⟩ jr_narA jr_fitA ?_
  refine JC.fold (pc' := 21) (k' := 5) (sl' := 14) (F' := FS_3) (M' := MS_0) rfl rfl rfl rfl rfl ?_
  refine JC.aload_n 0 (n := 3) d_H_ini_21 rfl rfl (by decide) ?_
  refine JC.bipush (v := (8 : Int32)) d_H_ini_22 (by decide) ?_
  refine JC.newi d_H_ini_24 (jt_1 92 rfl rfl) (Nat.le_of_ble_eq_true rfl) ⟨rfl, by decide⟩ (fun _ => rfl) (by decide) (by decide) (Nat.le_of_ble_eq_true rfl) (by decide) ?_
  refine JC.fold (pc' := 26) (k' := 6) (sl' := 22) (F' := FS_3) (M' := MS_0) rfl rfl rfl rfl rfl ?_
  refine JC.putF (ty := (.array .int)) d_H_ini_26 flc_H_21 flp_H_21 rfl ⟨by decide, by decide, rfl, rfl, rfl⟩ jr_narA jr_fitA ?_
  refine JC.fold (pc' := 29) (k' := 6) (sl' := 22) (F' := FS_4) (M' := MS_0) rfl rfl rfl rfl rfl ?_
  refine JC.aload_n 0 (n := 3) d_H_ini_29 rfl rfl (by decide) ?_
  refine JC.bipush (v := (8 : Int32)) d_H_ini_30 (by decide) ?_
  refine JC.newi d_H_ini_32 (jt_1 92 rfl rfl) (Nat.le_of_ble_eq_true rfl) ⟨rfl, by decide⟩ (fun _ => rfl) (by decide) (by decide) (Nat.le_of_ble_eq_true rfl) (by decide) ?_
  refine JC.fold (pc' := 34) (k' := 7) (sl' := 30) (F' := FS_4) (M' := MS_0) rfl rfl rfl rfl rfl ?_
  refine JC.putF (ty := (.array .int)) d_H_ini_34 flc_H_25 flp_H_25 rfl ⟨by decide, by decide, rfl, rfl, rfl⟩ jr_narA jr_fitA ?_
  refine JC.fold (pc' := 37) (k' := 7) (sl' := 30) (F' := FS_5) (M' := MS_0) rfl rfl rfl rfl rfl ?_
  refine JC.aload_n 0 (n := 3) d_H_ini_37 rfl rfl (by decide) ?_
  refine JC.bipush (v := (8 : Int32)) d_H_ini_38 (by decide) ?_
  refine JC.newi d_H_ini_40 (jt_1 92 rfl rfl) (Nat.le_of_ble_eq_true rfl) ⟨rfl, by decide⟩ (fun _ => rfl) (by decide) (by decide) (Nat.le_of_ble_eq_true rfl) (by decide) ?_
  refine JC.fold (pc' := 42) (k' := 8) (sl' := 38) (F' := FS_5) (M' := MS_0) rfl rfl rfl rfl rfl ?_
  refine JC.putF (ty := (.array .int)) d_H_ini_42 flc_H_28 flp_H_28 rfl ⟨by decide, by decide, rfl, rfl, rfl⟩ jr_narA jr_fitA ?_
  refine JC.fold (pc' := 45) (k' := 8) (sl' := 38) (F' := FS_6) (M' := MS_0) rfl rfl rfl rfl rfl ?_
  refine JC.aload_n 0 (n := 3) d_H_ini_45 rfl rfl (by decide) ?_
  refine JC.bipush (v := (64 : Int32)) d_H_ini_46 (by decide) ?_
  refine JC.newQ ha d_H_ini_48 (jt_1 41 rfl rfl) (Nat.le_of_ble_eq_true rfl) ⟨rfl, by decide⟩ (fun _ => rfl) (by decide) (by decide) (Nat.le_of_ble_eq_true rfl) (by decide) ?_
  refine JC.fold (pc' := 51) (k' := 9) (sl' := 102) (F' := FS_6) (M' := MS_0) rfl rfl rfl rfl rfl ?_
  refine JC.putF (ty := (.array (.object "CitingLetters$Token"))) d_H_ini_51 flc_H_31 flp_H_31 rfl ⟨by decide, by decide, rfl, rfl, rfl⟩ jr_narA jr_fitA ?_
  refine JC.fold (pc' := 54) (k' := 9) (sl' := 102) (F' := FS_7) (M' := MS_0) rfl rfl rfl rfl rfl ?_
  refine JC.aload_n 0 (n := 3) d_H_ini_54 rfl rfl (by decide) ?_
  refine JC.bipush (v := (64 : Int32)) d_H_ini_55 (by decide) ?_
  refine JC.newi d_H_ini_57 (jt_1 92 rfl rfl) (Nat.le_of_ble_eq_true rfl) ⟨rfl, by decide⟩ (fun _ => rfl) (by decide) (by decide) (Nat.le_of_ble_eq_true rfl) (by decide) ?_
  refine JC.fold (pc' := 59) (k' := 10) (sl' := 166) (F' := FS_7) (M' := MS_0) rfl rfl rfl rfl rfl ?_
  refine JC.putF (ty := (.array .int)) d_H_ini_59 flc_H_34 flp_H_34 rfl ⟨by decide, by decide, rfl, rfl, rfl⟩ jr_narA jr_fitA ?_
  refine JC.fold (pc' := 62) (k' := 10) (sl' := 166) (F' := FS_8) (M' := MS_0) rfl rfl rfl rfl rfl ?_
  refine JC.aload_n 0 (n := 3) d_H_ini_62 rfl rfl (by decide) ?_
  refine JC.bipush (v := (64 : Int32)) d_H_ini_63 (by decide) ?_
  refine JC.newi d_H_ini_65 (jt_1 92 rfl rfl) (Nat.le_of_ble_eq_true rfl) ⟨rfl, by decide⟩ (fun _ => rfl) (by decide) (by decide) (Nat.le_of_ble_eq_true rfl) (by decide) ?_
  refine JC.fold (pc' := 67) (k' := 11) (sl' := 230) (F' := FS_8) (M' := MS_0) rfl rfl rfl rfl rfl ?_
  refine JC.putF (ty := (.array .int)) d_H_ini_67 flc_H_37 flp_H_37 rfl ⟨by decide, by decide, rfl, rfl, rfl⟩ jr_narA jr_fitA ?_
  refine JC.fold (pc' := 70) (k' := 11) (sl' := 230) (F' := FS_9) (M' := MS_0) rfl rfl rfl rfl rfl ?_
  exact JC.vret d_H_ini_70 rfl rfl rfl rfl
def MS_1 : jMem := jup MS_0 1 2 (Int32.ofNat 3)
def FS_10 : Nat → Nat → Nat := jfup FS_9 12 0 13
def FS_11 : Nat → Nat → Nat := jfup FS_10 12 3 14
def FS_12 : Nat → Nat → Nat := jfup FS_11 12 4 15
def FS_13 : Nat → Nat → Nat := jfup FS_12 12 5 16
def FS_14 : Nat → Nat → Nat := jfup FS_13 12 6 17
def FS_15 : Nat → Nat → Nat := jfup FS_14 12 8 18
def FS_16 : Nat → Nat → Nat := jfup FS_15 12 9 19
def FS_17 : Nat → Nat → Nat := jfup FS_16 12 12 20
set_option maxRecDepth 20000 in
theorem cc_H_ini_2 {G : jG} (ha : jAO G) : jCC G Y_H_ini [jr G 12] 12 FS_9 MS_1 (20, FS_17, MS_1) := by
  refine jCC.of (ls := [(0, jr G 12)]) mi_H_ini rfl (jAvR jAvN) (Nat.le_of_ble_eq_true rfl) (by decide) ?_
  refine JC.aload_n 0 (n := 12) d_H_ini_0 rfl rfl (by decide) ?_
  refine JC.objInit (n := 12) d_H_ini_1 wOI_H (by decide) (Nat.le_trans jcN (Nat.le_of_ble_eq_true rfl)) ?_
  refine JC.aload_n 0 (n := 12) d_H_ini_4 rfl rfl (by decide) ?_
  refine JC.bipush (v := (6 : Int32)) d_H_ini_5 (by decide) ?_
  refine JC.newQ ha d_H_ini_7 (jt_1 41 rfl rfl) (Nat.le_of_ble_eq_true rfl) ⟨rfl, by decide⟩ (fun _ => rfl) (by decide) (by decide) (Nat.le_of_ble_eq_true rfl) (by decide) ?_
  refine JC.fold (pc' := 10) (k' := 13) (sl' := 6) (F' := FS_9) (M' := MS_1) rfl rfl rfl rfl rfl ?_
  refine JC.putF (ty := (.array (.object "CitingLetters$Token"))) d_H_ini_10 flc_H_11 flp_H_11 rfl ⟨by decide, by decide, rfl, rfl, rfl⟩ jr_narA jr_fitA ?_
  refine JC.fold (pc' := 13) (k' := 13) (sl' := 6) (F' := FS_10) (M' := MS_1) rfl rfl rfl rfl rfl ?_
  refine JC.aload_n 0 (n := 12) d_H_ini_13 rfl rfl (by decide) ?_
  refine JC.bipush (v := (8 : Int32)) d_H_ini_14 (by decide) ?_
  refine JC.newz d_H_ini_16 (jt_1 93 rfl rfl) (Nat.le_of_ble_eq_true rfl) ⟨rfl, by decide⟩ (fun _ => rfl) (by decide) (by decide) (Nat.le_of_ble_eq_true rfl) (by decide) ?_
  refine JC.fold (pc' := 18) (k' := 14) (sl' := 14) (F' := FS_10) (M' := MS_1) rfl rfl rfl rfl rfl ?_
  refine JC.putF (ty := (.array .boolean)) d_H_ini_18 flc_H_17 flp_H_17 rfl ⟨by decide, by decide, rfl, rfl, rfl⟩ jr_narA jr_fitA ?_
  refine JC.fold (pc' := 21) (k' := 14) (sl' := 14) (F' := FS_11) (M' := MS_1) rfl rfl rfl rfl rfl ?_
  refine JC.aload_n 0 (n := 12) d_H_ini_21 rfl rfl (by decide) ?_
  refine JC.bipush (v := (8 : Int32)) d_H_ini_22 (by decide) ?_
  refine JC.newi d_H_ini_24 (jt_1 92 rfl rfl) (Nat.le_of_ble_eq_true rfl) ⟨rfl, by decide⟩ (fun _ => rfl) (by decide) (by decide) (Nat.le_of_ble_eq_true rfl) (by decide) ?_
  refine JC.fold (pc' := 26) (k' := 15) (sl' := 22) (F' := FS_11) (M' := MS_1) rfl rfl rfl rfl rfl ?_
  refine JC.putF (ty := (.array .int)) d_H_ini_26 flc_H_21 flp_H_21 rfl ⟨by decide, by decide, rfl, rfl, rfl⟩ jr_narA jr_fitA ?_
  refine JC.fold (pc' := 29) (k' := 15) (sl' := 22) (F' := FS_12) (M' := MS_1) rfl rfl rfl rfl rfl ?_
  refine JC.aload_n 0 (n := 12) d_H_ini_29 rfl rfl (by decide) ?_
  refine JC.bipush (v := (8 : Int32)) d_H_ini_30 (by decide) ?_
  refine JC.newi d_H_ini_32 (jt_1 92 rfl rfl) (Nat.le_of_ble_eq_true rfl) ⟨rfl, by decide⟩ (fun _ => rfl) (by decide) (by decide) (Nat.le_of_ble_eq_true rfl) (by decide) ?_
  refine JC.fold (pc' := 34) (k' := 16) (sl' := 30) (F' := FS_12) (M' := MS_1) rfl rfl rfl rfl rfl ?_
  refine JC.putF (ty := (.array .int)) d_H_ini_34 flc_H_25 flp_H_25 rfl ⟨by decide, by decide, rfl, rfl, rfl⟩ jr_narA jr_fitA ?_
  refine JC.fold (pc' := 37) (k' := 16) (sl' := 30) (F' := FS_13) (M' := MS_1) rfl rfl rfl rfl rfl ?_
  refine JC.aload_n 0 (n := 12) d_H_ini_37 rfl rfl (by decide) ?_
  refine JC.bipush (v := (8 : Int32)) d_H_ini_38 (by decide) ?_
  refine JC.newi d_H_ini_40 (jt_1 92 rfl rfl) (Nat.le_of_ble_eq_true rfl) ⟨rfl, by decide⟩ (fun _ => rfl) (by decide) (by decide) (Nat.le_of_ble_eq_true rfl) (by decide) ?_
  refine JC.fold (pc' := 42) (k' := 17) (sl' := 38) (F' := FS_13) (M' := MS_1) rfl rfl rfl rfl rfl ?_
  refine JC.putF (ty := (.array .int)) d_H_ini_42 flc_H_28 flp_H_28 rfl ⟨by decide, by decide, rfl, rfl, rfl⟩ jr_narA jr_fitA ?_
  refine JC.fold (pc' := 45) (k' := 17) (sl' := 38) (F' := FS_14) (M' := MS_1) rfl rfl rfl rfl rfl ?_
  refine JC.aload_n 0 (n := 12) d_H_ini_45 rfl rfl (by decide) ?_
  refine JC.bipush (v := (64 : Int32)) d_H_ini_46 (by decide) ?_
  refine JC.newQ ha d_H_ini_48 (jt_1 41 rfl rfl) (Nat.le_of_ble_eq_true rfl) ⟨rfl, by decide⟩ (fun _ => rfl) (by decide) (by decide) (Nat.le_of_ble_eq_true rfl) (by decide) ?_
  refine JC.fold (pc' := 51) (k' := 18) (sl' := 102) (F' := FS_14) (M' := MS_1) rfl rfl rfl rfl rfl ?_
  refine JC.putF (ty := (.array (.object "CitingLetters$Token"))) d_H_ini_51 flc_H_31 flp_H_31 rfl ⟨by decide, by decide, rfl, rfl, rfl⟩ jr_narA jr_fitA ?_
  refine JC.fold (pc' := 54) (k' := 18) (sl' := 102) (F' := FS_15) (M' := MS_1) rfl rfl rfl rfl rfl ?_
  refine JC.aload_n 0 (n := 12) d_H_ini_54 rfl rfl (by decide) ?_
  refine JC.bipush (v := (64 : Int32)) d_H_ini_55 (by decide) ?_
  refine JC.newi d_H_ini_57 (jt_1 92 rfl rfl) (Nat.le_of_ble_eq_true rfl) ⟨rfl, by decide⟩ (fun _ => rfl) (by decide) (by decide) (Nat.le_of_ble_eq_true rfl) (by decide) ?_
  refine JC.fold (pc' := 59) (k' := 19) (sl' := 166) (F' := FS_15) (M' := MS_1) rfl rfl rfl rfl rfl ?_
  refine JC.putF (ty := (.array .int)) d_H_ini_59 flc_H_34 flp_H_34 rfl ⟨by decide, by decide, rfl, rfl, rfl⟩ jr_narA jr_fitA ?_
  refine JC.fold (pc' := 62) (k' := 19) (sl' := 166) (F' := FS_16) (M' := MS_1) rfl rfl rfl rfl rfl ?_
  refine JC.aload_n 0 (n := 12) d_H_ini_62 rfl rfl (by decide) ?_
  refine JC.bipush (v := (64 : Int32)) d_H_ini_63 (by decide) ?_
  refine JC.newi d_H_ini_65 (jt_1 92 rfl rfl) (Nat.le_of_ble_eq_true rfl) ⟨rfl, by decide⟩ (fun _ => rfl) (by decide) (by decide) (Nat.le_of_ble_eq_true rfl) (by decide) ?_
  refine JC.fold (pc' := 67) (k' := 20) (sl' := 230) (F' := FS_16) (M' := MS_1) rfl rfl rfl rfl rfl ?_
  refine JC.putF (ty := (.array .int)) d_H_ini_67 flc_H_37 flp_H_37 rfl ⟨by decide, by decide, rfl, rfl, rfl⟩ jr_narA jr_fitA ?_
  refine JC.fold (pc' := 70) (k' := 20) (sl' := 230) (F' := FS_17) (M' := MS_1) rfl rfl rfl rfl rfl ?_
  exact JC.vret d_H_ini_70 rfl rfl rfl rfl
def MS_2 : jMem := jup MS_1 1 3 (Int32.ofNat 12)
def MS_3 : jMem := jup MS_2 21 2 (Int32.ofNat 1001)
def MS_4 : jMem := jup MS_3 21 5 (-1 : Int32)
def FS_18 : Nat → Nat → Nat := jfup FS_17 21 7 22
def FS_19 : Nat → Nat → Nat := jfup FS_18 21 10 23
def FS_20 : Nat → Nat → Nat := jfup FS_19 24 2 25
def FS_21 : Nat → Nat → Nat := jfup FS_20 24 3 26
def FS_22 : Nat → Nat → Nat := jfup FS_21 24 4 27
def FS_23 : Nat → Nat → Nat := jfup FS_22 24 0 2
set_option maxRecDepth 20000 in
theorem cc_S_ini_1 {G : jG} (ha : jAO G) : jCC G Y_S_ini [jr G 24, jr G 2] 24 FS_19 MS_4 (27, FS_23, MS_4) := by
  refine jCC.of (ls := [(0, jr G 24), (1, jr G 2)]) mi_S_ini rfl (jAvR (jAvR jAvN)) (Nat.le_of_ble_eq_true rfl) (by decide) ?_
  refine JC.aload_n 0 (n := 24) d_S_ini_0 rfl rfl (by decide) ?_
  refine JC.objInit (n := 24) d_S_ini_1 wOI_S (by decide) (Nat.le_trans jcN (Nat.le_of_ble_eq_true rfl)) ?_
  refine JC.aload_n 0 (n := 24) d_S_ini_4 rfl rfl (by decide) ?_
  refine JC.sipush (v := (401 : Int32)) d_S_ini_5 (by decide) ?_
  refine JC.newQ ha d_S_ini_8 (jt_1 109 rfl rfl) (Nat.le_of_ble_eq_true rfl) ⟨rfl, by decide⟩ (fun _ => rfl) (by decide) (by decide) (Nat.le_of_ble_eq_true rfl) (by decide) ?_
  refine JC.fold (pc' := 11) (k' := 25) (sl' := 401) (F' := FS_19) (M' := MS_4) rfl rfl rfl rfl rfl ?_
  refine JC.putF (ty := (.array (.object "CitingLetters$Token"))) d_S_ini_11 flc_S_11 flp_S_11 rfl ⟨by decide, by decide, rfl, rfl, rfl⟩ jr_narA jr_fitA ?_
  refine JC.fold (pc' := 14) (k' := 25) (sl' := 401) (F' := FS_20) (M' := MS_4) rfl rfl rfl rfl rfl ?_
  refine JC.aload_n 0 (n := 24) d_S_ini_14 rfl rfl (by decide) ?_
  refine JC.sipush (v := (401 : Int32)) d_S_ini_15 (by decide) ?_
  refine JC.newi d_S_ini_18 (jt_1 92 rfl rfl) (Nat.le_of_ble_eq_true rfl) ⟨rfl, by decide⟩ (fun _ => rfl) (by decide) (by decide) (Nat.le_of_ble_eq_true rfl) (by decide) ?_
  refine JC.fold (pc' := 20) (k' := 26) (sl' := 802) (F' := FS_20) (M' := MS_4) rfl rfl rfl rfl rfl ?_
  refine JC.putF (ty := (.array .int)) d_S_ini_20 flc_S_17 flp_S_17 rfl ⟨by decide, by decide, rfl, rfl, rfl⟩ jr_narA jr_fitA ?_
  refine JC.fold (pc' := 23) (k' := 26) (sl' := 802) (F' := FS_21) (M' := MS_4) rfl rfl rfl rfl rfl ?_
  refine JC.aload_n 0 (n := 24) d_S_ini_23 rfl rfl (by decide) ?_
  refine JC.sipush (v := (401 : Int32)) d_S_ini_24 (by decide) ?_
  refine JC.newi d_S_ini_27 (jt_1 92 rfl rfl) (Nat.le_of_ble_eq_true rfl) ⟨rfl, by decide⟩ (fun _ => rfl) (by decide) (by decide) (Nat.le_of_ble_eq_true rfl) (by decide) ?_
  refine JC.fold (pc' := 29) (k' := 27) (sl' := 1203) (F' := FS_21) (M' := MS_4) rfl rfl rfl rfl rfl ?_
  refine JC.putF (ty := (.array .int)) d_S_ini_29 flc_S_21 flp_S_21 rfl ⟨by decide, by decide, rfl, rfl, rfl⟩ jr_narA jr_fitA ?_
  refine JC.fold (pc' := 32) (k' := 27) (sl' := 1203) (F' := FS_22) (M' := MS_4) rfl rfl rfl rfl rfl ?_
  refine JC.aload_n 0 (n := 24) d_S_ini_32 rfl rfl (by decide) ?_
  refine JC.aload_n 1 (n := 2) d_S_ini_33 rfl rfl (by decide) ?_
  refine JC.putF (ty := (.array .int)) d_S_ini_34 flc_S_24 flp_S_24 rfl ⟨by decide, by decide, rfl, rfl, rfl⟩ jr_narA jr_fitA ?_
  refine JC.fold (pc' := 37) (k' := 27) (sl' := 1203) (F' := FS_23) (M' := MS_4) rfl rfl rfl rfl rfl ?_
  exact JC.vret d_S_ini_37 rfl rfl rfl rfl
def FS_24 : Nat → Nat → Nat := jfup FS_23 21 0 24
def MS_5 : jMem := jup MS_4 21 6 (Int32.ofNat 12)
set_option maxRecDepth 20000 in
theorem cc_R_ini_1 {G : jG} (ha : jAO G) : jCC G Y_R_ini [jr G 21, jr G 2, jr G 12] 21 FS_17 MS_2 (27, FS_24, MS_5) := by
  refine jCC.of (ls := [(0, jr G 21), (1, jr G 2), (2, jr G 12)]) mi_R_ini rfl (jAvR (jAvR (jAvR jAvN))) (Nat.le_of_ble_eq_true rfl) (by decide) ?_
  refine JC.aload_n 0 (n := 21) d_R_ini_0 rfl rfl (by decide) ?_
  refine JC.objInit (n := 21) d_R_ini_1 wOI_R (by decide) (Nat.le_trans jcN (Nat.le_of_ble_eq_true rfl)) ?_
  refine JC.aload_n 0 (n := 21) d_R_ini_4 rfl rfl (by decide) ?_
  refine JC.gets (i := 0) (nm := "END") d_R_ini_5 (by decide) rfl (jt_1 100 rfl rfl) ?_
  refine JC.putR (ty := (.object "CitingLetters$Token")) d_R_ini_8 flc_R_15 fpc_2_2 ⟨by decide, by decide, rfl, rfl, rfl⟩ (by decide) jr_nar jr_fit ?_
  refine JC.fold (pc' := 11) (k' := 21) (sl' := 0) (F' := FS_17) (M' := MS_3) rfl rfl rfl rfl rfl ?_
  refine JC.aload_n 0 (n := 21) d_R_ini_11 rfl rfl (by decide) ?_
  refine JC.iconst (v := (-1 : Int32)) d_R_ini_12 (by decide) ?_
  refine JC.putI (ty := .int) d_R_ini_13 flc_R_20 fpc_2_5 ⟨by decide, by decide, rfl, rfl, rfl⟩ rfl rfl ?_
  refine JC.fold (pc' := 16) (k' := 21) (sl' := 0) (F' := FS_17) (M' := MS_4) rfl rfl rfl rfl rfl ?_
  refine JC.aload_n 0 (n := 21) d_R_ini_16 rfl rfl (by decide) ?_
  refine JC.bipush (v := (72 : Int32)) d_R_ini_17 (by decide) ?_
  refine JC.newQ ha d_R_ini_19 (jt_1 102 rfl rfl) (Nat.le_of_ble_eq_true rfl) ⟨rfl, by decide⟩ (fun _ => rfl) (by decide) (by decide) (Nat.le_of_ble_eq_true rfl) (by decide) ?_
  refine JC.fold (pc' := 22) (k' := 22) (sl' := 72) (F' := FS_17) (M' := MS_4) rfl rfl rfl rfl rfl ?_
  refine JC.putF (ty := (.array (.object "CitingLetters$Token"))) d_R_ini_22 flc_R_24 flp_R_24 rfl ⟨by decide, by decide, rfl, rfl, rfl⟩ jr_narA jr_fitA ?_
  refine JC.fold (pc' := 25) (k' := 22) (sl' := 72) (F' := FS_18) (M' := MS_4) rfl rfl rfl rfl rfl ?_
  refine JC.aload_n 0 (n := 21) d_R_ini_25 rfl rfl (by decide) ?_
  refine JC.bipush (v := (9 : Int32)) d_R_ini_26 (by decide) ?_
  refine JC.newz d_R_ini_28 (jt_1 93 rfl rfl) (Nat.le_of_ble_eq_true rfl) ⟨rfl, by decide⟩ (fun _ => rfl) (by decide) (by decide) (Nat.le_of_ble_eq_true rfl) (by decide) ?_
  refine JC.fold (pc' := 30) (k' := 23) (sl' := 81) (F' := FS_18) (M' := MS_4) rfl rfl rfl rfl rfl ?_
  refine JC.putF (ty := (.array .boolean)) d_R_ini_30 flc_R_28 flp_R_28 rfl ⟨by decide, by decide, rfl, rfl, rfl⟩ jr_narA jr_fitA ?_
  refine JC.fold (pc' := 33) (k' := 23) (sl' := 81) (F' := FS_19) (M' := MS_4) rfl rfl rfl rfl rfl ?_
  refine JC.aload_n 0 (n := 21) d_R_ini_33 rfl rfl (by decide) ?_
  refine JC.new (ci := 3) (N := 6) (C := "CitingLetters$Scanner") (T := jTS) jtS d_R_ini_34 rfl rfl jtS_ok iw_S wnew_R_32 (Nat.le_of_ble_eq_true rfl) ⟨rfl, rfl⟩ (by decide +kernel) (fun _ => rfl) (fun _ => rfl) (Nat.le_of_ble_eq_true rfl) (Nat.le_of_ble_eq_true rfl) ?_
  refine JC.fold (pc' := 37) (k' := 24) (sl' := 87) (F' := FS_19) (M' := MS_4) rfl rfl rfl rfl rfl ?_
  refine JC.dup d_R_ini_37 (jr_cat _ _) ?_
  refine JC.aload_n 1 (n := 2) d_R_ini_38 rfl rfl (by decide) ?_
  refine JC.call Y_S_ini (As := [jr G 2]) (rest := [jr G 24, jr G 21]) (k1 := 27) (F1 := FS_23) (M1 := MS_4) d_R_ini_39 mi_S_ini zi_S_ini lkc_R_34 ⟨(Nat.le_of_ble_eq_true rfl), (Nat.le_of_ble_eq_true rfl), (Nat.le_of_ble_eq_true rfl), rfl, (Nat.le_of_ble_eq_true rfl)⟩ (by decide) (cc_S_ini_1 ha) rfl (Nat.le_trans (jcR (jcR jcN)) (Nat.le_of_ble_eq_true rfl)) ?_
  refine JC.fold (pc' := 42) (k' := 27) (sl' := 1290) (F' := FS_23) (M' := MS_4) rfl rfl rfl rfl rfl ?_
  refine JC.putF (ty := (.object "CitingLetters$Scanner")) d_R_ini_42 flc_R_37 flp_R_37 rfl ⟨by decide, by decide, rfl, rfl, rfl⟩ jr_nar jr_fit ?_
  refine JC.fold (pc' := 45) (k' := 27) (sl' := 1290) (F' := FS_24) (M' := MS_4) rfl rfl rfl rfl rfl ?_
  refine JC.aload_n 0 (n := 21) d_R_ini_45 rfl rfl (by decide) ?_
  refine JC.aload_n 2 (n := 12) d_R_ini_46 rfl rfl (by decide) ?_
  refine JC.putR (ty := (.object "CitingLetters$Habits")) d_R_ini_47 flc_R_41 fpc_2_6 ⟨by decide, by decide, rfl, rfl, rfl⟩ (by decide) jr_nar jr_fit ?_
  refine JC.fold (pc' := 50) (k' := 27) (sl' := 1290) (F' := FS_24) (M' := MS_5) rfl rfl rfl rfl rfl ?_
  exact JC.vret d_R_ini_50 rfl rfl rfl rfl
def FS_25 : Nat → Nat → Nat := jfup FS_24 1 4 21
def FS_26 : Nat → Nat → Nat := jfup FS_25 1 5 28
def FS_27 : Nat → Nat → Nat := jfup FS_26 29 0 30
def FS_28 : Nat → Nat → Nat := jfup FS_27 29 1 31
def FS_29 : Nat → Nat → Nat := jfup FS_28 29 2 32
def FS_30 : Nat → Nat → Nat := jfup FS_29 29 3 33
def FS_31 : Nat → Nat → Nat := jfup FS_30 29 4 34
def FS_32 : Nat → Nat → Nat := jfup FS_31 29 5 35
def FS_33 : Nat → Nat → Nat := jfup FS_32 29 6 36
def FS_34 : Nat → Nat → Nat := jfup FS_33 29 7 37
def FS_35 : Nat → Nat → Nat := jfup FS_34 29 8 38
def FS_36 : Nat → Nat → Nat := jfup FS_35 29 9 39
def FS_37 : Nat → Nat → Nat := jfup FS_36 29 10 40
def FS_38 : Nat → Nat → Nat := jfup FS_37 29 11 41
def FS_39 : Nat → Nat → Nat := jfup FS_38 29 12 42
def FS_40 : Nat → Nat → Nat := jfup FS_39 29 13 43
def FS_41 : Nat → Nat → Nat := jfup FS_40 29 14 44
set_option maxRecDepth 20000 in
theorem cc_L_ini_1 {G : jG} (ha : jAO G) : jCC G Y_L_ini [jr G 29] 29 FS_26 MS_5 (44, FS_41, MS_5) := by
  refine jCC.of (ls := [(0, jr G 29)]) mi_L_ini rfl (jAvR jAvN) (Nat.le_of_ble_eq_true rfl) (by decide) ?_
  refine JC.aload_n 0 (n := 29) d_L_ini_0 rfl rfl (by decide) ?_
  refine JC.objInit (n := 29) d_L_ini_1 wOI_L (by decide) (Nat.le_trans jcN (Nat.le_of_ble_eq_true rfl)) ?_
  refine JC.aload_n 0 (n := 29) d_L_ini_4 rfl rfl (by decide) ?_
  refine JC.bipush (v := (30 : Int32)) d_L_ini_5 (by decide) ?_
  refine JC.newi d_L_ini_7 (jt_1 92 rfl rfl) (Nat.le_of_ble_eq_true rfl) ⟨rfl, by decide⟩ (fun _ => rfl) (by decide) (by decide) (Nat.le_of_ble_eq_true rfl) (by decide) ?_
  refine JC.fold (pc' := 9) (k' := 30) (sl' := 30) (F' := FS_26) (M' := MS_5) rfl rfl rfl rfl rfl ?_
  refine JC.putF (ty := (.array .int)) d_L_ini_9 flc_L_9 flp_L_9 rfl ⟨by decide, by decide, rfl, rfl, rfl⟩ jr_narA jr_fitA ?_
  refine JC.fold (pc' := 12) (k' := 30) (sl' := 30) (F' := FS_27) (M' := MS_5) rfl rfl rfl rfl rfl ?_
  refine JC.aload_n 0 (n := 29) d_L_ini_12 rfl rfl (by decide) ?_
  refine JC.bipush (v := (30 : Int32)) d_L_ini_13 (by decide) ?_
  refine JC.newi d_L_ini_15 (jt_1 92 rfl rfl) (Nat.le_of_ble_eq_true rfl) ⟨rfl, by decide⟩ (fun _ => rfl) (by decide) (by decide) (Nat.le_of_ble_eq_true rfl) (by decide) ?_
  refine JC.fold (pc' := 17) (k' := 31) (sl' := 60) (F' := FS_27) (M' := MS_5) rfl rfl rfl rfl rfl ?_
  refine JC.putF (ty := (.array .int)) d_L_ini_17 flc_L_15 flp_L_15 rfl ⟨by decide, by decide, rfl, rfl, rfl⟩ jr_narA jr_fitA ?_
  refine JC.fold (pc' := 20) (k' := 31) (sl' := 60) (F' := FS_28) (M' := MS_5) rfl rfl rfl rfl rfl ?_
  refine JC.aload_n 0 (n := 29) d_L_ini_20 rfl rfl (by decide) ?_
  refine JC.bipush (v := (30 : Int32)) d_L_ini_21 (by decide) ?_
  refine JC.newi d_L_ini_23 (jt_1 92 rfl rfl) (Nat.le_of_ble_eq_true rfl) ⟨rfl, by decide⟩ (fun _ => rfl) (by decide) (by decide) (Nat.le_of_ble_eq_true rfl) (by decide) ?_
  refine JC.fold (pc' := 25) (k' := 32) (sl' := 90) (F' := FS_28) (M' := MS_5) rfl rfl rfl rfl rfl ?_
  refine JC.putF (ty := (.array .int)) d_L_ini_25 flc_L_18 flp_L_18 rfl ⟨by decide, by decide, rfl, rfl, rfl⟩ jr_narA jr_fitA ?_
  refine JC.fold (pc' := 28) (k' := 32) (sl' := 90) (F' := FS_29) (M' := MS_5) rfl rfl rfl rfl rfl ?_
  refine JC.aload_n 0 (n := 29) d_L_ini_28 rfl rfl (by decide) ?_
  refine JC.bipush (v := (30 : Int32)) d_L_ini_29 (by decide) ?_
  refine JC.newi d_L_ini_31 (jt_1 92 rfl rfl) (Nat.le_of_ble_eq_true rfl) ⟨rfl, by decide⟩ (fun _ => rfl) (by decide) (by decide) (Nat.le_of_ble_eq_true rfl) (by decide) ?_
  refine JC.fold (pc' := 33) (k' := 33) (sl' := 120) (F' := FS_29) (M' := MS_5) rfl rfl rfl rfl rfl ?_
  refine JC.putF (ty := (.array .int)) d_L_ini_33 flc_L_21 flp_L_21 rfl ⟨by decide, by decide, rfl, rfl, rfl⟩ jr_narA jr_fitA ?_
  refine JC.fold (pc' := 36) (k' := 33) (sl' := 120) (F' := FS_30) (M' := MS_5) rfl rfl rfl rfl rfl ?_
  refine JC.aload_n 0 (n := 29) d_L_ini_36 rfl rfl (by decide) ?_
  refine JC.bipush (v := (30 : Int32)) d_L_ini_37 (by decide) ?_
  refine JC.newi d_L_ini_39 (jt_1 92 rfl rfl) (Nat.le_of_ble_eq_true rfl) ⟨rfl, by decide⟩ (fun _ => rfl) (by decide) (by decide) (Nat.le_of_ble_eq_true rfl) (by decide) ?_
  refine JC.fold (pc' := 41) (k' := 34) (sl' := 150) (F' := FS_30) (M' := MS_5) rfl rfl rfl rfl rfl ?_
  refine JC.putF (ty := (.array .int)) d_L_ini_41 flc_L_24 flp_L_24 rfl ⟨by decide, by decide, rfl, rfl, rfl⟩ jr_narA jr_fitA ?_
  refine JC.fold (pc' := 44) (k' := 34) (sl' := 150) (F' := FS_31) (M' := MS_5) rfl rfl rfl rfl rfl ?_
  refine JC.aload_n 0 (n := 29) d_L_ini_44 rfl rfl (by decide) ?_
  refine JC.bipush (v := (30 : Int32)) d_L_ini_45 (by decide) ?_
  refine JC.newi d_L_ini_47 (jt_1 92 rfl rfl) (Nat.le_of_ble_eq_true rfl) ⟨rfl, by decide⟩ (fun _ => rfl) (by decide) (by decide) (Nat.le_of_ble_eq_true rfl) (by decide) ?_
  refine JC.fold (pc' := 49) (k' := 35) (sl' := 180) (F' := FS_31) (M' := MS_5) rfl rfl rfl rfl rfl ?_
  refine JC.putF (ty := (.array .int)) d_L_ini_49 flc_L_27 flp_L_27 rfl ⟨by decide, by decide, rfl, rfl, rfl⟩ jr_narA jr_fitA ?_
  refine JC.fold (pc' := 52) (k' := 35) (sl' := 180) (F' := FS_32) (M' := MS_5) rfl rfl rfl rfl rfl ?_
  refine JC.aload_n 0 (n := 29) d_L_ini_52 rfl rfl (by decide) ?_
  refine JC.bipush (v := (30 : Int32)) d_L_ini_53 (by decide) ?_
  refine JC.newi d_L_ini_55 (jt_1 92 rfl rfl) (Nat.le_of_ble_eq_true rfl) ⟨rfl, by decide⟩ (fun _ => rfl) (by decide) (by decide) (Nat.le_of_ble_eq_true rfl) (by decide) ?_
  refine JC.fold (pc' := 57) (k' := 36) (sl' := 210) (F' := FS_32) (M' := MS_5) rfl rfl rfl rfl rfl ?_
  refine JC.putF (ty := (.array .int)) d_L_ini_57 flc_L_30 flp_L_30 rfl ⟨by decide, by decide, rfl, rfl, rfl⟩ jr_narA jr_fitA ?_
  refine JC.fold (pc' := 60) (k' := 36) (sl' := 210) (F' := FS_33) (M' := MS_5) rfl rfl rfl rfl rfl ?_
  refine JC.aload_n 0 (n := 29) d_L_ini_60 rfl rfl (by decide) ?_
  refine JC.bipush (v := (30 : Int32)) d_L_ini_61 (by decide) ?_
  refine JC.newi d_L_ini_63 (jt_1 92 rfl rfl) (Nat.le_of_ble_eq_true rfl) ⟨rfl, by decide⟩ (fun _ => rfl) (by decide) (by decide) (Nat.le_of_ble_eq_true rfl) (by decide) ?_
  refine JC.fold (pc' := 65) (k' := 37) (sl' := 240) (F' := FS_33) (M' := MS_5) rfl rfl rfl rfl rfl ?_
  refine JC.putF (ty := (.array .int)) d_L_ini_65 flc_L_33 flp_L_33 rfl ⟨by decide, by decide, rfl, rfl, rfl⟩ jr_narA jr_fitA ?_
  refine JC.fold (pc' := 68) (k' := 37) (sl' := 240) (F' := FS_34) (M' := MS_5) rfl rfl rfl rfl rfl ?_
  refine JC.aload_n 0 (n := 29) d_L_ini_68 rfl rfl (by decide) ?_
  refine JC.bipush (v := (30 : Int32)) d_L_ini_69 (by decide) ?_
  refine JC.newi d_L_ini_71 (jt_1 92 rfl rfl) (Nat.le_of_ble_eq_true rfl) ⟨rfl, by decide⟩ (fun _ => rfl) (by decide) (by decide) (Nat.le_of_ble_eq_true rfl) (by decide) ?_
  refine JC.fold (pc' := 73) (k' := 38) (sl' := 270) (F' := FS_34) (M' := MS_5) rfl rfl rfl rfl rfl ?_
  refine JC.putF (ty := (.array .int)) d_L_ini_73 flc_L_36 flp_L_36 rfl ⟨by decide, by decide, rfl, rfl, rfl⟩ jr_narA jr_fitA ?_
  refine JC.fold (pc' := 76) (k' := 38) (sl' := 270) (F' := FS_35) (M' := MS_5) rfl rfl rfl rfl rfl ?_
  refine JC.aload_n 0 (n := 29) d_L_ini_76 rfl rfl (by decide) ?_
  refine JC.bipush (v := (30 : Int32)) d_L_ini_77 (by decide) ?_
  refine JC.newi d_L_ini_79 (jt_1 92 rfl rfl) (Nat.le_of_ble_eq_true rfl) ⟨rfl, by decide⟩ (fun _ => rfl) (by decide) (by decide) (Nat.le_of_ble_eq_true rfl) (by decide) ?_
  refine JC.fold (pc' := 81) (k' := 39) (sl' := 300) (F' := FS_35) (M' := MS_5) rfl rfl rfl rfl rfl ?_
  refine JC.putF (ty := (.array .int)) d_L_ini_81 flc_L_39 flp_L_39 rfl ⟨by decide, by decide, rfl, rfl, rfl⟩ jr_narA jr_fitA ?_
  refine JC.fold (pc' := 84) (k' := 39) (sl' := 300) (F' := FS_36) (M' := MS_5) rfl rfl rfl rfl rfl ?_
  refine JC.aload_n 0 (n := 29) d_L_ini_84 rfl rfl (by decide) ?_
  refine JC.bipush (v := (30 : Int32)) d_L_ini_85 (by decide) ?_
  refine JC.newi d_L_ini_87 (jt_1 92 rfl rfl) (Nat.le_of_ble_eq_true rfl) ⟨rfl, by decide⟩ (fun _ => rfl) (by decide) (by decide) (Nat.le_of_ble_eq_true rfl) (by decide) ?_
  refine JC.fold (pc' := 89) (k' := 40) (sl' := 330) (F' := FS_36) (M' := MS_5) rfl rfl rfl rfl rfl ?_
  refine JC.putF (ty := (.array .int)) d_L_ini_89 flc_L_42 flp_L_42 rfl ⟨by decide, by decide, rfl, rfl, rfl⟩ jr_narA jr_fitA ?_
  refine JC.fold (pc' := 92) (k' := 40) (sl' := 330) (F' := FS_37) (M' := MS_5) rfl rfl rfl rfl rfl ?_
  refine JC.aload_n 0 (n := 29) d_L_ini_92 rfl rfl (by decide) ?_
  refine JC.bipush (v := (30 : Int32)) d_L_ini_93 (by decide) ?_
  refine JC.newi d_L_ini_95 (jt_1 92 rfl rfl) (Nat.le_of_ble_eq_true rfl) ⟨rfl, by decide⟩ (fun _ => rfl) (by decide) (by decide) (Nat.le_of_ble_eq_true rfl) (by decide) ?_
  refine JC.fold (pc' := 97) (k' := 41) (sl' := 360) (F' := FS_37) (M' := MS_5) rfl rfl rfl rfl rfl ?_
  refine JC.putF (ty := (.array .int)) d_L_ini_97 flc_L_45 flp_L_45 rfl ⟨by decide, by decide, rfl, rfl, rfl⟩ jr_narA jr_fitA ?_
  refine JC.fold (pc' := 100) (k' := 41) (sl' := 360) (F' := FS_38) (M' := MS_5) rfl rfl rfl rfl rfl ?_
  refine JC.aload_n 0 (n := 29) d_L_ini_100 rfl rfl (by decide) ?_
  refine JC.bipush (v := (6 : Int32)) d_L_ini_101 (by decide) ?_
  refine JC.newi d_L_ini_103 (jt_1 92 rfl rfl) (Nat.le_of_ble_eq_true rfl) ⟨rfl, by decide⟩ (fun _ => rfl) (by decide) (by decide) (Nat.le_of_ble_eq_true rfl) (by decide) ?_
  refine JC.fold (pc' := 105) (k' := 42) (sl' := 366) (F' := FS_38) (M' := MS_5) rfl rfl rfl rfl rfl ?_
  refine JC.putF (ty := (.array .int)) d_L_ini_105 flc_L_48 flp_L_48 rfl ⟨by decide, by decide, rfl, rfl, rfl⟩ jr_narA jr_fitA ?_
  refine JC.fold (pc' := 108) (k' := 42) (sl' := 366) (F' := FS_39) (M' := MS_5) rfl rfl rfl rfl rfl ?_
  refine JC.aload_n 0 (n := 29) d_L_ini_108 rfl rfl (by decide) ?_
  refine JC.bipush (v := (6 : Int32)) d_L_ini_109 (by decide) ?_
  refine JC.newi d_L_ini_111 (jt_1 92 rfl rfl) (Nat.le_of_ble_eq_true rfl) ⟨rfl, by decide⟩ (fun _ => rfl) (by decide) (by decide) (Nat.le_of_ble_eq_true rfl) (by decide) ?_
  refine JC.fold (pc' := 113) (k' := 43) (sl' := 372) (F' := FS_39) (M' := MS_5) rfl rfl rfl rfl rfl ?_
  refine JC.putF (ty := (.array .int)) d_L_ini_113 flc_L_51 flp_L_51 rfl ⟨by decide, by decide, rfl, rfl, rfl⟩ jr_narA jr_fitA ?_
  refine JC.fold (pc' := 116) (k' := 43) (sl' := 372) (F' := FS_40) (M' := MS_5) rfl rfl rfl rfl rfl ?_
  refine JC.aload_n 0 (n := 29) d_L_ini_116 rfl rfl (by decide) ?_
  refine JC.bipush (v := (30 : Int32)) d_L_ini_117 (by decide) ?_
  refine JC.newi d_L_ini_119 (jt_1 92 rfl rfl) (Nat.le_of_ble_eq_true rfl) ⟨rfl, by decide⟩ (fun _ => rfl) (by decide) (by decide) (Nat.le_of_ble_eq_true rfl) (by decide) ?_
  refine JC.fold (pc' := 121) (k' := 44) (sl' := 402) (F' := FS_40) (M' := MS_5) rfl rfl rfl rfl rfl ?_
  refine JC.putF (ty := (.array .int)) d_L_ini_121 flc_L_54 flp_L_54 rfl ⟨by decide, by decide, rfl, rfl, rfl⟩ jr_narA jr_fitA ?_
  refine JC.fold (pc' := 124) (k' := 44) (sl' := 402) (F' := FS_41) (M' := MS_5) rfl rfl rfl rfl rfl ?_
  exact JC.vret d_L_ini_124 rfl rfl rfl rfl
def FS_42 : Nat → Nat → Nat := jfup FS_41 1 7 29
def FS_43 : Nat → Nat → Nat := fun c i => if c = 46 then (if i < 6 then 47 + i else 0) else FS_42 c i
def FS_44 : Nat → Nat → Nat := jfup FS_43 45 0 46
def FS_45 : Nat → Nat → Nat := fun c i => if c = 53 then (if i < 6 then 54 + i else 0) else FS_44 c i
def FS_46 : Nat → Nat → Nat := jfup FS_45 45 1 53
def FS_47 : Nat → Nat → Nat := jfup FS_46 45 5 60
def FS_48 : Nat → Nat → Nat := jfup FS_47 45 6 61
def FS_49 : Nat → Nat → Nat := jfup FS_48 45 7 62
def FS_50 : Nat → Nat → Nat := jfup FS_49 45 8 63
def FS_51 : Nat → Nat → Nat := jfup FS_50 45 9 64
def MS_6 : jMem := jup MS_5 47 0 (0 : Int32)
def MS_7 : jMem := jup MS_6 54 0 (0 : Int32)
def MS_8 : jMem := jup MS_7 47 1 (5 : Int32)
def MS_9 : jMem := jup MS_8 54 1 (5 : Int32)
def MS_10 : jMem := jup MS_9 47 2 (5 : Int32)
def MS_11 : jMem := jup MS_10 54 2 (5 : Int32)
def MS_12 : jMem := jup MS_11 47 3 (5 : Int32)
def MS_13 : jMem := jup MS_12 54 3 (5 : Int32)
def MS_14 : jMem := jup MS_13 47 4 (5 : Int32)
def MS_15 : jMem := jup MS_14 54 4 (5 : Int32)
def MS_16 : jMem := jup MS_15 47 5 (5 : Int32)
def MS_17 : jMem := jup MS_16 54 5 (5 : Int32)
def MS_18 : jMem := jup MS_17 48 0 (5 : Int32)
def MS_19 : jMem := jup MS_18 55 0 (5 : Int32)
def MS_20 : jMem := jup MS_19 48 1 (0 : Int32)
def MS_21 : jMem := jup MS_20 55 1 (0 : Int32)
def MS_22 : jMem := jup MS_21 48 2 (5 : Int32)
def MS_23 : jMem := jup MS_22 55 2 (5 : Int32)
def MS_24 : jMem := jup MS_23 48 3 (5 : Int32)
def MS_25 : jMem := jup MS_24 55 3 (5 : Int32)
def MS_26 : jMem := jup MS_25 48 4 (5 : Int32)
def MS_27 : jMem := jup MS_26 55 4 (5 : Int32)
def MS_28 : jMem := jup MS_27 48 5 (5 : Int32)
def MS_29 : jMem := jup MS_28 55 5 (5 : Int32)
def MS_30 : jMem := jup MS_29 49 0 (5 : Int32)
def MS_31 : jMem := jup MS_30 56 0 (5 : Int32)
def MS_32 : jMem := jup MS_31 49 1 (5 : Int32)
def MS_33 : jMem := jup MS_32 56 1 (5 : Int32)
def MS_34 : jMem := jup MS_33 49 2 (0 : Int32)
def MS_35 : jMem := jup MS_34 56 2 (0 : Int32)
def MS_36 : jMem := jup MS_35 49 3 (5 : Int32)
def MS_37 : jMem := jup MS_36 56 3 (5 : Int32)
def MS_38 : jMem := jup MS_37 49 4 (5 : Int32)
def MS_39 : jMem := jup MS_38 56 4 (5 : Int32)
def MS_40 : jMem := jup MS_39 49 5 (5 : Int32)
def MS_41 : jMem := jup MS_40 56 5 (5 : Int32)
def MS_42 : jMem := jup MS_41 50 0 (5 : Int32)
def MS_43 : jMem := jup MS_42 57 0 (5 : Int32)
def MS_44 : jMem := jup MS_43 50 1 (5 : Int32)
def MS_45 : jMem := jup MS_44 57 1 (5 : Int32)
def MS_46 : jMem := jup MS_45 50 2 (5 : Int32)
def MS_47 : jMem := jup MS_46 57 2 (5 : Int32)
def MS_48 : jMem := jup MS_47 50 3 (0 : Int32)
def MS_49 : jMem := jup MS_48 57 3 (0 : Int32)
def MS_50 : jMem := jup MS_49 50 4 (5 : Int32)
def MS_51 : jMem := jup MS_50 57 4 (5 : Int32)
def MS_52 : jMem := jup MS_51 50 5 (5 : Int32)
def MS_53 : jMem := jup MS_52 57 5 (5 : Int32)
def MS_54 : jMem := jup MS_53 51 0 (5 : Int32)
def MS_55 : jMem := jup MS_54 58 0 (5 : Int32)
def MS_56 : jMem := jup MS_55 51 1 (5 : Int32)
def MS_57 : jMem := jup MS_56 58 1 (5 : Int32)
def MS_58 : jMem := jup MS_57 51 2 (5 : Int32)
def MS_59 : jMem := jup MS_58 58 2 (5 : Int32)
def MS_60 : jMem := jup MS_59 51 3 (5 : Int32)
def MS_61 : jMem := jup MS_60 58 3 (5 : Int32)
def MS_62 : jMem := jup MS_61 51 4 (0 : Int32)
def MS_63 : jMem := jup MS_62 58 4 (0 : Int32)
def MS_64 : jMem := jup MS_63 51 5 (5 : Int32)
def MS_65 : jMem := jup MS_64 58 5 (5 : Int32)
def MS_66 : jMem := jup MS_65 52 0 (5 : Int32)
def MS_67 : jMem := jup MS_66 59 0 (5 : Int32)
def MS_68 : jMem := jup MS_67 52 1 (5 : Int32)
def MS_69 : jMem := jup MS_68 59 1 (5 : Int32)
def MS_70 : jMem := jup MS_69 52 2 (5 : Int32)
def MS_71 : jMem := jup MS_70 59 2 (5 : Int32)
def MS_72 : jMem := jup MS_71 52 3 (5 : Int32)
def MS_73 : jMem := jup MS_72 59 3 (5 : Int32)
def MS_74 : jMem := jup MS_73 52 4 (5 : Int32)
def MS_75 : jMem := jup MS_74 59 4 (5 : Int32)
def MS_76 : jMem := jup MS_75 52 5 (0 : Int32)
def MS_77 : jMem := jup MS_76 59 5 (0 : Int32)
set_option maxRecDepth 20000 in
theorem cc_P_ini_1 {G : jG} (ha : jAO G) : jCC G Y_P_ini [jr G 45] 45 FS_42 MS_5 (64, FS_51, MS_77) := by
  refine jCC.of (ls := [(0, jr G 45)]) mi_P_ini rfl (jAvR jAvN) (Nat.le_of_ble_eq_true rfl) (by decide) ?_
  refine JC.aload_n 0 (n := 45) d_P_ini_0 rfl rfl (by decide) ?_
  refine JC.objInit (n := 45) d_P_ini_1 wOI_P (by decide) (Nat.le_trans jcN (Nat.le_of_ble_eq_true rfl)) ?_
  refine JC.aload_n 0 (n := 45) d_P_ini_4 rfl rfl (by decide) ?_
  refine JC.bipush (v := (6 : Int32)) d_P_ini_5 (by decide) ?_
  refine JC.bipush (v := (6 : Int32)) d_P_ini_7 (by decide) ?_
  refine JC.mnaQ ha (N := 6) (F' := FS_43) d_P_ini_9 ⟨jt_2 18 rfl rfl, jt_1 92 rfl rfl⟩ (by decide) (Nat.le_of_ble_eq_true rfl) ⟨rfl, rfl⟩ (by decide +kernel) (fun i hi q => by rcases i with _|_|_|_|_|_|i <;> first | rfl | omega) (by decide) (by decide) (by decide) (by decide) rfl (Nat.le_of_ble_eq_true rfl) (by decide) ?_
  refine JC.fold (pc' := 13) (k' := 52) (sl' := 42) (F' := FS_43) (M' := MS_5) rfl rfl rfl rfl rfl ?_
  refine JC.putF (ty := (.array (.array .int))) d_P_ini_13 flc_P_11 flp_P_11 rfl ⟨by decide, by decide, rfl, rfl, rfl⟩ jr_narA jr_fitA ?_
  refine JC.fold (pc' := 16) (k' := 52) (sl' := 42) (F' := FS_44) (M' := MS_5) rfl rfl rfl rfl rfl ?_
  refine JC.aload_n 0 (n := 45) d_P_ini_16 rfl rfl (by decide) ?_
  refine JC.bipush (v := (6 : Int32)) d_P_ini_17 (by decide) ?_
  refine JC.bipush (v := (6 : Int32)) d_P_ini_19 (by decide) ?_
  refine JC.mnaQ ha (N := 6) (F' := FS_45) d_P_ini_21 ⟨jt_2 18 rfl rfl, jt_1 92 rfl rfl⟩ (by decide) (Nat.le_of_ble_eq_true rfl) ⟨rfl, rfl⟩ (by decide +kernel) (fun i hi q => by rcases i with _|_|_|_|_|_|i <;> first | rfl | omega) (by decide) (by decide) (by decide) (by decide) rfl (Nat.le_of_ble_eq_true rfl) (by decide) ?_
  refine JC.fold (pc' := 25) (k' := 59) (sl' := 84) (F' := FS_45) (M' := MS_5) rfl rfl rfl rfl rfl ?_
  refine JC.putF (ty := (.array (.array .int))) d_P_ini_25 flc_P_16 flp_P_16 rfl ⟨by decide, by decide, rfl, rfl, rfl⟩ jr_narA jr_fitA ?_
  refine JC.fold (pc' := 28) (k' := 59) (sl' := 84) (F' := FS_46) (M' := MS_5) rfl rfl rfl rfl rfl ?_
  refine JC.aload_n 0 (n := 45) d_P_ini_28 rfl rfl (by decide) ?_
  refine JC.sipush (v := (150 : Int32)) d_P_ini_29 (by decide) ?_
  refine JC.newi d_P_ini_32 (jt_1 92 rfl rfl) (Nat.le_of_ble_eq_true rfl) ⟨rfl, by decide⟩ (fun _ => rfl) (by decide) (by decide) (Nat.le_of_ble_eq_true rfl) (by decide) ?_
  refine JC.fold (pc' := 34) (k' := 60) (sl' := 234) (F' := FS_46) (M' := MS_5) rfl rfl rfl rfl rfl ?_
  refine JC.putF (ty := (.array .int)) d_P_ini_34 flc_P_19 flp_P_19 rfl ⟨by decide, by decide, rfl, rfl, rfl⟩ jr_narA jr_fitA ?_
  refine JC.fold (pc' := 37) (k' := 60) (sl' := 234) (F' := FS_47) (M' := MS_5) rfl rfl rfl rfl rfl ?_
  refine JC.aload_n 0 (n := 45) d_P_ini_37 rfl rfl (by decide) ?_
  refine JC.sipush (v := (150 : Int32)) d_P_ini_38 (by decide) ?_
  refine JC.newi d_P_ini_41 (jt_1 92 rfl rfl) (Nat.le_of_ble_eq_true rfl) ⟨rfl, by decide⟩ (fun _ => rfl) (by decide) (by decide) (Nat.le_of_ble_eq_true rfl) (by decide) ?_
  refine JC.fold (pc' := 43) (k' := 61) (sl' := 384) (F' := FS_47) (M' := MS_5) rfl rfl rfl rfl rfl ?_
  refine JC.putF (ty := (.array .int)) d_P_ini_43 flc_P_23 flp_P_23 rfl ⟨by decide, by decide, rfl, rfl, rfl⟩ jr_narA jr_fitA ?_
  refine JC.fold (pc' := 46) (k' := 61) (sl' := 384) (F' := FS_48) (M' := MS_5) rfl rfl rfl rfl rfl ?_
  refine JC.aload_n 0 (n := 45) d_P_ini_46 rfl rfl (by decide) ?_
  refine JC.sipush (v := (150 : Int32)) d_P_ini_47 (by decide) ?_
  refine JC.newi d_P_ini_50 (jt_1 92 rfl rfl) (Nat.le_of_ble_eq_true rfl) ⟨rfl, by decide⟩ (fun _ => rfl) (by decide) (by decide) (Nat.le_of_ble_eq_true rfl) (by decide) ?_
  refine JC.fold (pc' := 52) (k' := 62) (sl' := 534) (F' := FS_48) (M' := MS_5) rfl rfl rfl rfl rfl ?_
  refine JC.putF (ty := (.array .int)) d_P_ini_52 flc_P_26 flp_P_26 rfl ⟨by decide, by decide, rfl, rfl, rfl⟩ jr_narA jr_fitA ?_
  refine JC.fold (pc' := 55) (k' := 62) (sl' := 534) (F' := FS_49) (M' := MS_5) rfl rfl rfl rfl rfl ?_
  refine JC.aload_n 0 (n := 45) d_P_ini_55 rfl rfl (by decide) ?_
  refine JC.sipush (v := (150 : Int32)) d_P_ini_56 (by decide) ?_
  refine JC.newi d_P_ini_59 (jt_1 92 rfl rfl) (Nat.le_of_ble_eq_true rfl) ⟨rfl, by decide⟩ (fun _ => rfl) (by decide) (by decide) (Nat.le_of_ble_eq_true rfl) (by decide) ?_
  refine JC.fold (pc' := 61) (k' := 63) (sl' := 684) (F' := FS_49) (M' := MS_5) rfl rfl rfl rfl rfl ?_
  refine JC.putF (ty := (.array .int)) d_P_ini_61 flc_P_29 flp_P_29 rfl ⟨by decide, by decide, rfl, rfl, rfl⟩ jr_narA jr_fitA ?_
  refine JC.fold (pc' := 64) (k' := 63) (sl' := 684) (F' := FS_50) (M' := MS_5) rfl rfl rfl rfl rfl ?_
  refine JC.aload_n 0 (n := 45) d_P_ini_64 rfl rfl (by decide) ?_
  refine JC.sipush (v := (150 : Int32)) d_P_ini_65 (by decide) ?_
  refine JC.newi d_P_ini_68 (jt_1 92 rfl rfl) (Nat.le_of_ble_eq_true rfl) ⟨rfl, by decide⟩ (fun _ => rfl) (by decide) (by decide) (Nat.le_of_ble_eq_true rfl) (by decide) ?_
  refine JC.fold (pc' := 70) (k' := 64) (sl' := 834) (F' := FS_50) (M' := MS_5) rfl rfl rfl rfl rfl ?_
  refine JC.putF (ty := (.array .int)) d_P_ini_70 flc_P_32 flp_P_32 rfl ⟨by decide, by decide, rfl, rfl, rfl⟩ jr_narA jr_fitA ?_
  refine JC.fold (pc' := 73) (k' := 64) (sl' := 834) (F' := FS_51) (M' := MS_5) rfl rfl rfl rfl rfl ?_
  refine JC.toJ (M' := MS_77) rfl rfl rfl ?_
  show J (jGk G 64 FS_51) Y_P_ini _ [(0, jr (jGk G 64 FS_51) 45)] [] MS_5 (none, MS_77)
  refine J.iconst (v := (0 : Int32)) d_P_ini_73 (by decide) ?_
  refine J.istore_n (lv := [(1, .int (0 : Int32)), (0, jr (jGk G 64 FS_51) 45)]) d_P_ini_74 rfl (by decide) rfl ?_
  refine J.iload_n 0 d_P_ini_75 rfl rfl ?_
  refine J.bipush (v := (6 : Int32)) d_P_ini_76 (by decide) ?_
  refine J.icmp_ge 135 d_P_ini_78 rfl (fun c => absurd c (by decide)) (fun _ => ?_)
  refine J.nop (pc' := 81) rfl ?_
  refine J.iconst (v := (0 : Int32)) d_P_ini_81 (by decide) ?_
  refine J.istore_n (lv := [(2, .int (0 : Int32)), (1, .int (0 : Int32)), (0, jr (jGk G 64 FS_51) 45)]) d_P_ini_82 rfl (by decide) rfl ?_
  refine J.iload_n 0 d_P_ini_83 rfl rfl ?_
  refine J.bipush (v := (6 : Int32)) d_P_ini_84 (by decide) ?_
  refine J.icmp_ge 129 d_P_ini_86 rfl (fun c => absurd c (by decide)) (fun _ => ?_)
  refine J.aload_n 2 d_P_ini_89 rfl rfl ?_
  refine J.nop (pc' := 90) rfl ?_
  refine J.getf (c := 45) (v := jr (jGk G 64 FS_51) 46) d_P_ini_90 flc_P_11 ⟨by decide, (Nat.le_of_ble_eq_true rfl), rfl, rfl⟩ rfl ?_
  refine J.iload_n 1 d_P_ini_93 rfl rfl ?_
  refine J.aald3 (c := 46) (n := 47) d_P_ini_94 ⟨by decide, (Nat.le_of_ble_eq_true rfl)⟩ (by unfold vp_in; decide) rfl ?_
  refine J.iload_n 0 d_P_ini_95 rfl rfl ?_
  refine J.iload_n 1 d_P_ini_96 rfl rfl ?_
  refine J.iload_n 0 d_P_ini_97 rfl rfl ?_
  refine J.nop (pc' := 98) rfl ?_
  refine J.icmp_ne 105 d_P_ini_98 rfl (fun c => absurd c (by decide)) (fun _ => ?_)
  refine J.iconst (v := (0 : Int32)) d_P_ini_101 (by decide) ?_
  refine J.goto 106 d_P_ini_102 rfl ?_
  refine J.iastF (c := 47) (m' := MS_6) d_P_ini_106 ⟨by decide, (Nat.le_of_ble_eq_true rfl)⟩ (by unfold vp_in; decide) rfl ?_
  refine J.aload_n 2 d_P_ini_107 rfl rfl ?_
  refine J.getf (c := 45) (v := jr (jGk G 64 FS_51) 53) d_P_ini_108 flc_P_16 ⟨by decide, (Nat.le_of_ble_eq_true rfl), rfl, rfl⟩ rfl ?_
  refine J.nop (pc' := 111) rfl ?_
  refine J.iload_n 1 d_P_ini_111 rfl rfl ?_
  refine J.aald3 (c := 53) (n := 54) d_P_ini_112 ⟨by decide, (Nat.le_of_ble_eq_true rfl)⟩ (by unfold vp_in; decide) rfl ?_
  refine J.iload_n 0 d_P_ini_113 rfl rfl ?_
  refine J.aload_n 2 d_P_ini_114 rfl rfl ?_
  refine J.getf (c := 45) (v := jr (jGk G 64 FS_51) 46) d_P_ini_115 flc_P_11 ⟨by decide, (Nat.le_of_ble_eq_true rfl), rfl, rfl⟩ rfl ?_
  refine J.iload_n 1 d_P_ini_118 rfl rfl ?_
  refine J.nop (pc' := 119) rfl ?_
  refine J.aald3 (c := 46) (n := 47) d_P_ini_119 ⟨by decide, (Nat.le_of_ble_eq_true rfl)⟩ (by unfold vp_in; decide) rfl ?_
  refine J.iload_n 0 d_P_ini_120 rfl rfl ?_
  refine J.ialdF (c := 47) (x := (0 : Int32)) d_P_ini_121 ⟨by decide, (Nat.le_of_ble_eq_true rfl)⟩ (by unfold vp_in; decide) rfl ?_
  refine J.iastF (c := 54) (m' := MS_7) d_P_ini_122 ⟨by decide, (Nat.le_of_ble_eq_true rfl)⟩ (by unfold vp_in; decide) rfl ?_
  refine J.iinc 0 (v := (1 : Int32)) (lv := [(2, .int (1 : Int32)), (1, .int (0 : Int32)), (0, jr (jGk G 64 FS_51) 45)]) d_P_ini_123 rfl (by decide) (by decide) rfl ?_
  refine J.goto 83 d_P_ini_126 rfl ?_
  refine J.nop (pc' := 83) rfl ?_
  refine J.iload_n 0 d_P_ini_83 rfl rfl ?_
  refine J.bipush (v := (6 : Int32)) d_P_ini_84 (by decide) ?_
  refine J.icmp_ge 129 d_P_ini_86 rfl (fun c => absurd c (by decide)) (fun _ => ?_)
  refine J.aload_n 2 d_P_ini_89 rfl rfl ?_
  refine J.getf (c := 45) (v := jr (jGk G 64 FS_51) 46) d_P_ini_90 flc_P_11 ⟨by decide, (Nat.le_of_ble_eq_true rfl), rfl, rfl⟩ rfl ?_
  refine J.iload_n 1 d_P_ini_93 rfl rfl ?_
  refine J.nop (pc' := 94) rfl ?_
  refine J.aald3 (c := 46) (n := 47) d_P_ini_94 ⟨by decide, (Nat.le_of_ble_eq_true rfl)⟩ (by unfold vp_in; decide) rfl ?_
  refine J.iload_n 0 d_P_ini_95 rfl rfl ?_
  refine J.iload_n 1 d_P_ini_96 rfl rfl ?_
  refine J.iload_n 0 d_P_ini_97 rfl rfl ?_
  refine J.icmp_ne 105 d_P_ini_98 rfl (fun _ => ?_) (fun c => absurd c (by decide))
  refine J.iconst (v := (5 : Int32)) d_P_ini_105 (by decide) ?_
  refine J.nop (pc' := 106) rfl ?_
  refine J.iastF (c := 47) (m' := MS_8) d_P_ini_106 ⟨by decide, (Nat.le_of_ble_eq_true rfl)⟩ (by unfold vp_in; decide) rfl ?_
  refine J.aload_n 2 d_P_ini_107 rfl rfl ?_
  refine J.getf (c := 45) (v := jr (jGk G 64 FS_51) 53) d_P_ini_108 flc_P_16 ⟨by decide, (Nat.le_of_ble_eq_true rfl), rfl, rfl⟩ rfl ?_
  refine J.iload_n 1 d_P_ini_111 rfl rfl ?_
  refine J.aald3 (c := 53) (n := 54) d_P_ini_112 ⟨by decide, (Nat.le_of_ble_eq_true rfl)⟩ (by unfold vp_in; decide) rfl ?_
  refine J.iload_n 0 d_P_ini_113 rfl rfl ?_
  refine J.nop (pc' := 114) rfl ?_
  refine J.aload_n 2 d_P_ini_114 rfl rfl ?_
  refine J.getf (c := 45) (v := jr (jGk G 64 FS_51) 46) d_P_ini_115 flc_P_11 ⟨by decide, (Nat.le_of_ble_eq_true rfl), rfl, rfl⟩ rfl ?_
  refine J.iload_n 1 d_P_ini_118 rfl rfl ?_
  refine J.aald3 (c := 46) (n := 47) d_P_ini_119 ⟨by decide, (Nat.le_of_ble_eq_true rfl)⟩ (by unfold vp_in; decide) rfl ?_
  refine J.iload_n 0 d_P_ini_120 rfl rfl ?_
  refine J.ialdF (c := 47) (x := (5 : Int32)) d_P_ini_121 ⟨by decide, (Nat.le_of_ble_eq_true rfl)⟩ (by unfold vp_in; decide) rfl ?_
  refine J.nop (pc' := 122) rfl ?_
  refine J.iastF (c := 54) (m' := MS_9) d_P_ini_122 ⟨by decide, (Nat.le_of_ble_eq_true rfl)⟩ (by unfold vp_in; decide) rfl ?_
  refine J.iinc 0 (v := (1 : Int32)) (lv := [(2, .int (2 : Int32)), (1, .int (0 : Int32)), (0, jr (jGk G 64 FS_51) 45)]) d_P_ini_123 rfl (by decide) (by decide) rfl ?_
  refine J.goto 83 d_P_ini_126 rfl ?_
  refine J.iload_n 0 d_P_ini_83 rfl rfl ?_
  refine J.bipush (v := (6 : Int32)) d_P_ini_84 (by decide) ?_
  refine J.icmp_ge 129 d_P_ini_86 rfl (fun c => absurd c (by decide)) (fun _ => ?_)
  refine J.nop (pc' := 89) rfl ?_
  refine J.aload_n 2 d_P_ini_89 rfl rfl ?_
  refine J.getf (c := 45) (v := jr (jGk G 64 FS_51) 46) d_P_ini_90 flc_P_11 ⟨by decide, (Nat.le_of_ble_eq_true rfl), rfl, rfl⟩ rfl ?_
  refine J.iload_n 1 d_P_ini_93 rfl rfl ?_
  refine J.aald3 (c := 46) (n := 47) d_P_ini_94 ⟨by decide, (Nat.le_of_ble_eq_true rfl)⟩ (by unfold vp_in; decide) rfl ?_
  refine J.iload_n 0 d_P_ini_95 rfl rfl ?_
  refine J.iload_n 1 d_P_ini_96 rfl rfl ?_
  refine J.nop (pc' := 97) rfl ?_
  refine J.iload_n 0 d_P_ini_97 rfl rfl ?_
  refine J.icmp_ne 105 d_P_ini_98 rfl (fun _ => ?_) (fun c => absurd c (by decide))
  refine J.iconst (v := (5 : Int32)) d_P_ini_105 (by decide) ?_
  refine J.iastF (c := 47) (m' := MS_10) d_P_ini_106 ⟨by decide, (Nat.le_of_ble_eq_true rfl)⟩ (by unfold vp_in; decide) rfl ?_
  refine J.aload_n 2 d_P_ini_107 rfl rfl ?_
  refine J.getf (c := 45) (v := jr (jGk G 64 FS_51) 53) d_P_ini_108 flc_P_16 ⟨by decide, (Nat.le_of_ble_eq_true rfl), rfl, rfl⟩ rfl ?_
  refine J.nop (pc' := 111) rfl ?_
  refine J.iload_n 1 d_P_ini_111 rfl rfl ?_
  refine J.aald3 (c := 53) (n := 54) d_P_ini_112 ⟨by decide, (Nat.le_of_ble_eq_true rfl)⟩ (by unfold vp_in; decide) rfl ?_
  refine J.iload_n 0 d_P_ini_113 rfl rfl ?_
  refine J.aload_n 2 d_P_ini_114 rfl rfl ?_
  refine J.getf (c := 45) (v := jr (jGk G 64 FS_51) 46) d_P_ini_115 flc_P_11 ⟨by decide, (Nat.le_of_ble_eq_true rfl), rfl, rfl⟩ rfl ?_
  refine J.iload_n 1 d_P_ini_118 rfl rfl ?_
  refine J.nop (pc' := 119) rfl ?_
  refine J.aald3 (c := 46) (n := 47) d_P_ini_119 ⟨by decide, (Nat.le_of_ble_eq_true rfl)⟩ (by unfold vp_in; decide) rfl ?_
  refine J.iload_n 0 d_P_ini_120 rfl rfl ?_
  refine J.ialdF (c := 47) (x := (5 : Int32)) d_P_ini_121 ⟨by decide, (Nat.le_of_ble_eq_true rfl)⟩ (by unfold vp_in; decide) rfl ?_
  refine J.iastF (c := 54) (m' := MS_11) d_P_ini_122 ⟨by decide, (Nat.le_of_ble_eq_true rfl)⟩ (by unfold vp_in; decide) rfl ?_
  refine J.iinc 0 (v := (1 : Int32)) (lv := [(2, .int (3 : Int32)), (1, .int (0 : Int32)), (0, jr (jGk G 64 FS_51) 45)]) d_P_ini_123 rfl (by decide) (by decide) rfl ?_
  refine J.goto 83 d_P_ini_126 rfl ?_
  refine J.nop (pc' := 83) rfl ?_
  refine J.iload_n 0 d_P_ini_83 rfl rfl ?_
  refine J.bipush (v := (6 : Int32)) d_P_ini_84 (by decide) ?_
  refine J.icmp_ge 129 d_P_ini_86 rfl (fun c => absurd c (by decide)) (fun _ => ?_)
  refine J.aload_n 2 d_P_ini_89 rfl rfl ?_
  refine J.getf (c := 45) (v := jr (jGk G 64 FS_51) 46) d_P_ini_90 flc_P_11 ⟨by decide, (Nat.le_of_ble_eq_true rfl), rfl, rfl⟩ rfl ?_
  refine J.iload_n 1 d_P_ini_93 rfl rfl ?_
  refine J.nop (pc' := 94) rfl ?_
  refine J.aald3 (c := 46) (n := 47) d_P_ini_94 ⟨by decide, (Nat.le_of_ble_eq_true rfl)⟩ (by unfold vp_in; decide) rfl ?_
  refine J.iload_n 0 d_P_ini_95 rfl rfl ?_
  refine J.iload_n 1 d_P_ini_96 rfl rfl ?_
  refine J.iload_n 0 d_P_ini_97 rfl rfl ?_
  refine J.icmp_ne 105 d_P_ini_98 rfl (fun _ => ?_) (fun c => absurd c (by decide))
  refine J.iconst (v := (5 : Int32)) d_P_ini_105 (by decide) ?_
  refine J.nop (pc' := 106) rfl ?_
  refine J.iastF (c := 47) (m' := MS_12) d_P_ini_106 ⟨by decide, (Nat.le_of_ble_eq_true rfl)⟩ (by unfold vp_in; decide) rfl ?_
  refine J.aload_n 2 d_P_ini_107 rfl rfl ?_
  refine J.getf (c := 45) (v := jr (jGk G 64 FS_51) 53) d_P_ini_108 flc_P_16 ⟨by decide, (Nat.le_of_ble_eq_true rfl), rfl, rfl⟩ rfl ?_
  refine J.iload_n 1 d_P_ini_111 rfl rfl ?_
  refine J.aald3 (c := 53) (n := 54) d_P_ini_112 ⟨by decide, (Nat.le_of_ble_eq_true rfl)⟩ (by unfold vp_in; decide) rfl ?_
  refine J.iload_n 0 d_P_ini_113 rfl rfl ?_
  refine J.nop (pc' := 114) rfl ?_
  refine J.aload_n 2 d_P_ini_114 rfl rfl ?_
  refine J.getf (c := 45) (v := jr (jGk G 64 FS_51) 46) d_P_ini_115 flc_P_11 ⟨by decide, (Nat.le_of_ble_eq_true rfl), rfl, rfl⟩ rfl ?_
  refine J.iload_n 1 d_P_ini_118 rfl rfl ?_
  refine J.aald3 (c := 46) (n := 47) d_P_ini_119 ⟨by decide, (Nat.le_of_ble_eq_true rfl)⟩ (by unfold vp_in; decide) rfl ?_
  refine J.iload_n 0 d_P_ini_120 rfl rfl ?_
  refine J.ialdF (c := 47) (x := (5 : Int32)) d_P_ini_121 ⟨by decide, (Nat.le_of_ble_eq_true rfl)⟩ (by unfold vp_in; decide) rfl ?_
  refine J.nop (pc' := 122) rfl ?_
  refine J.iastF (c := 54) (m' := MS_13) d_P_ini_122 ⟨by decide, (Nat.le_of_ble_eq_true rfl)⟩ (by unfold vp_in; decide) rfl ?_
  refine J.iinc 0 (v := (1 : Int32)) (lv := [(2, .int (4 : Int32)), (1, .int (0 : Int32)), (0, jr (jGk G 64 FS_51) 45)]) d_P_ini_123 rfl (by decide) (by decide) rfl ?_
  refine J.goto 83 d_P_ini_126 rfl ?_
  refine J.iload_n 0 d_P_ini_83 rfl rfl ?_
  refine J.bipush (v := (6 : Int32)) d_P_ini_84 (by decide) ?_
  refine J.icmp_ge 129 d_P_ini_86 rfl (fun c => absurd c (by decide)) (fun _ => ?_)
  refine J.nop (pc' := 89) rfl ?_
  refine J.aload_n 2 d_P_ini_89 rfl rfl ?_
  refine J.getf (c := 45) (v := jr (jGk G 64 FS_51) 46) d_P_ini_90 flc_P_11 ⟨by decide, (Nat.le_of_ble_eq_true rfl), rfl, rfl⟩ rfl ?_
  refine J.iload_n 1 d_P_ini_93 rfl rfl ?_
  refine J.aald3 (c := 46) (n := 47) d_P_ini_94 ⟨by decide, (Nat.le_of_ble_eq_true rfl)⟩ (by unfold vp_in; decide) rfl ?_
  refine J.iload_n 0 d_P_ini_95 rfl rfl ?_
  refine J.iload_n 1 d_P_ini_96 rfl rfl ?_
  refine J.nop (pc' := 97) rfl ?_
  refine J.iload_n 0 d_P_ini_97 rfl rfl ?_
  refine J.icmp_ne 105 d_P_ini_98 rfl (fun _ => ?_) (fun c => absurd c (by decide))
  refine J.iconst (v := (5 : Int32)) d_P_ini_105 (by decide) ?_
  refine J.iastF (c := 47) (m' := MS_14) d_P_ini_106 ⟨by decide, (Nat.le_of_ble_eq_true rfl)⟩ (by unfold vp_in; decide) rfl ?_
  refine J.aload_n 2 d_P_ini_107 rfl rfl ?_
  refine J.getf (c := 45) (v := jr (jGk G 64 FS_51) 53) d_P_ini_108 flc_P_16 ⟨by decide, (Nat.le_of_ble_eq_true rfl), rfl, rfl⟩ rfl ?_
  refine J.nop (pc' := 111) rfl ?_
  refine J.iload_n 1 d_P_ini_111 rfl rfl ?_
  refine J.aald3 (c := 53) (n := 54) d_P_ini_112 ⟨by decide, (Nat.le_of_ble_eq_true rfl)⟩ (by unfold vp_in; decide) rfl ?_
  refine J.iload_n 0 d_P_ini_113 rfl rfl ?_
  refine J.aload_n 2 d_P_ini_114 rfl rfl ?_
  refine J.getf (c := 45) (v := jr (jGk G 64 FS_51) 46) d_P_ini_115 flc_P_11 ⟨by decide, (Nat.le_of_ble_eq_true rfl), rfl, rfl⟩ rfl ?_
  refine J.iload_n 1 d_P_ini_118 rfl rfl ?_
  refine J.nop (pc' := 119) rfl ?_
  refine J.aald3 (c := 46) (n := 47) d_P_ini_119 ⟨by decide, (Nat.le_of_ble_eq_true rfl)⟩ (by unfold vp_in; decide) rfl ?_
  refine J.iload_n 0 d_P_ini_120 rfl rfl ?_
  refine J.ialdF (c := 47) (x := (5 : Int32)) d_P_ini_121 ⟨by decide, (Nat.le_of_ble_eq_true rfl)⟩ (by unfold vp_in; decide) rfl ?_
  refine J.iastF (c := 54) (m' := MS_15) d_P_ini_122 ⟨by decide, (Nat.le_of_ble_eq_true rfl)⟩ (by unfold vp_in; decide) rfl ?_
  refine J.iinc 0 (v := (1 : Int32)) (lv := [(2, .int (5 : Int32)), (1, .int (0 : Int32)), (0, jr (jGk G 64 FS_51) 45)]) d_P_ini_123 rfl (by decide) (by decide) rfl ?_
  refine J.goto 83 d_P_ini_126 rfl ?_
  refine J.nop (pc' := 83) rfl ?_
  refine J.iload_n 0 d_P_ini_83 rfl rfl ?_
  refine J.bipush (v := (6 : Int32)) d_P_ini_84 (by decide) ?_
  refine J.icmp_ge 129 d_P_ini_86 rfl (fun c => absurd c (by decide)) (fun _ => ?_)
  refine J.aload_n 2 d_P_ini_89 rfl rfl ?_
  refine J.getf (c := 45) (v := jr (jGk G 64 FS_51) 46) d_P_ini_90 flc_P_11 ⟨by decide, (Nat.le_of_ble_eq_true rfl), rfl, rfl⟩ rfl ?_
  refine J.iload_n 1 d_P_ini_93 rfl rfl ?_
  refine J.nop (pc' := 94) rfl ?_
  refine J.aald3 (c := 46) (n := 47) d_P_ini_94 ⟨by decide, (Nat.le_of_ble_eq_true rfl)⟩ (by unfold vp_in; decide) rfl ?_
  refine J.iload_n 0 d_P_ini_95 rfl rfl ?_
  refine J.iload_n 1 d_P_ini_96 rfl rfl ?_
  refine J.iload_n 0 d_P_ini_97 rfl rfl ?_
  refine J.icmp_ne 105 d_P_ini_98 rfl (fun _ => ?_) (fun c => absurd c (by decide))
  refine J.iconst (v := (5 : Int32)) d_P_ini_105 (by decide) ?_
  refine J.nop (pc' := 106) rfl ?_
  refine J.iastF (c := 47) (m' := MS_16) d_P_ini_106 ⟨by decide, (Nat.le_of_ble_eq_true rfl)⟩ (by unfold vp_in; decide) rfl ?_
  refine J.aload_n 2 d_P_ini_107 rfl rfl ?_
  refine J.getf (c := 45) (v := jr (jGk G 64 FS_51) 53) d_P_ini_108 flc_P_16 ⟨by decide, (Nat.le_of_ble_eq_true rfl), rfl, rfl⟩ rfl ?_
  refine J.iload_n 1 d_P_ini_111 rfl rfl ?_
  refine J.aald3 (c := 53) (n := 54) d_P_ini_112 ⟨by decide, (Nat.le_of_ble_eq_true rfl)⟩ (by unfold vp_in; decide) rfl ?_
  refine J.iload_n 0 d_P_ini_113 rfl rfl ?_
  refine J.nop (pc' := 114) rfl ?_
  refine J.aload_n 2 d_P_ini_114 rfl rfl ?_
  refine J.getf (c := 45) (v := jr (jGk G 64 FS_51) 46) d_P_ini_115 flc_P_11 ⟨by decide, (Nat.le_of_ble_eq_true rfl), rfl, rfl⟩ rfl ?_
  refine J.iload_n 1 d_P_ini_118 rfl rfl ?_
  refine J.aald3 (c := 46) (n := 47) d_P_ini_119 ⟨by decide, (Nat.le_of_ble_eq_true rfl)⟩ (by unfold vp_in; decide) rfl ?_
  refine J.iload_n 0 d_P_ini_120 rfl rfl ?_
  refine J.ialdF (c := 47) (x := (5 : Int32)) d_P_ini_121 ⟨by decide, (Nat.le_of_ble_eq_true rfl)⟩ (by unfold vp_in; decide) rfl ?_
  refine J.nop (pc' := 122) rfl ?_
  refine J.iastF (c := 54) (m' := MS_17) d_P_ini_122 ⟨by decide, (Nat.le_of_ble_eq_true rfl)⟩ (by unfold vp_in; decide) rfl ?_
  refine J.iinc 0 (v := (1 : Int32)) (lv := [(2, .int (6 : Int32)), (1, .int (0 : Int32)), (0, jr (jGk G 64 FS_51) 45)]) d_P_ini_123 rfl (by decide) (by decide) rfl ?_
  refine J.goto 83 d_P_ini_126 rfl ?_
  refine J.iload_n 0 d_P_ini_83 rfl rfl ?_
  refine J.bipush (v := (6 : Int32)) d_P_ini_84 (by decide) ?_
  refine J.icmp_ge 129 d_P_ini_86 rfl (fun _ => ?_) (fun c => absurd c (by decide))
  refine J.nop (pc' := 129) rfl ?_
  refine J.iinc 1 (v := (1 : Int32)) (lv := [(1, .int (1 : Int32)), (2, .int (6 : Int32)), (0, jr (jGk G 64 FS_51) 45)]) d_P_ini_129 rfl (by decide) (by decide) rfl ?_
  refine J.goto 75 d_P_ini_132 rfl ?_
  refine J.iload_n 0 d_P_ini_75 rfl rfl ?_
  refine J.bipush (v := (6 : Int32)) d_P_ini_76 (by decide) ?_
  refine J.icmp_ge 135 d_P_ini_78 rfl (fun c => absurd c (by decide)) (fun _ => ?_)
  refine J.iconst (v := (0 : Int32)) d_P_ini_81 (by decide) ?_
  refine J.nop (pc' := 82) rfl ?_
  refine J.istore_n (lv := [(2, .int (0 : Int32)), (1, .int (1 : Int32)), (0, jr (jGk G 64 FS_51) 45)]) d_P_ini_82 rfl (by decide) rfl ?_
  refine J.iload_n 0 d_P_ini_83 rfl rfl ?_
  refine J.bipush (v := (6 : Int32)) d_P_ini_84 (by decide) ?_
  refine J.icmp_ge 129 d_P_ini_86 rfl (fun c => absurd c (by decide)) (fun _ => ?_)
  refine J.aload_n 2 d_P_ini_89 rfl rfl ?_
  refine J.getf (c := 45) (v := jr (jGk G 64 FS_51) 46) d_P_ini_90 flc_P_11 ⟨by decide, (Nat.le_of_ble_eq_true rfl), rfl, rfl⟩ rfl ?_
  refine J.nop (pc' := 93) rfl ?_
  refine J.iload_n 1 d_P_ini_93 rfl rfl ?_
  refine J.aald3 (c := 46) (n := 48) d_P_ini_94 ⟨by decide, (Nat.le_of_ble_eq_true rfl)⟩ (by unfold vp_in; decide) rfl ?_
  refine J.iload_n 0 d_P_ini_95 rfl rfl ?_
  refine J.iload_n 1 d_P_ini_96 rfl rfl ?_
  refine J.iload_n 0 d_P_ini_97 rfl rfl ?_
  refine J.icmp_ne 105 d_P_ini_98 rfl (fun _ => ?_) (fun c => absurd c (by decide))
  refine J.nop (pc' := 105) rfl ?_
  refine J.iconst (v := (5 : Int32)) d_P_ini_105 (by decide) ?_
  refine J.iastF (c := 48) (m' := MS_18) d_P_ini_106 ⟨by decide, (Nat.le_of_ble_eq_true rfl)⟩ (by unfold vp_in; decide) rfl ?_
  refine J.aload_n 2 d_P_ini_107 rfl rfl ?_
  refine J.getf (c := 45) (v := jr (jGk G 64 FS_51) 53) d_P_ini_108 flc_P_16 ⟨by decide, (Nat.le_of_ble_eq_true rfl), rfl, rfl⟩ rfl ?_
  refine J.iload_n 1 d_P_ini_111 rfl rfl ?_
  refine J.aald3 (c := 53) (n := 55) d_P_ini_112 ⟨by decide, (Nat.le_of_ble_eq_true rfl)⟩ (by unfold vp_in; decide) rfl ?_
  refine J.nop (pc' := 113) rfl ?_
  refine J.iload_n 0 d_P_ini_113 rfl rfl ?_
  refine J.aload_n 2 d_P_ini_114 rfl rfl ?_
  refine J.getf (c := 45) (v := jr (jGk G 64 FS_51) 46) d_P_ini_115 flc_P_11 ⟨by decide, (Nat.le_of_ble_eq_true rfl), rfl, rfl⟩ rfl ?_
  refine J.iload_n 1 d_P_ini_118 rfl rfl ?_
  refine J.aald3 (c := 46) (n := 48) d_P_ini_119 ⟨by decide, (Nat.le_of_ble_eq_true rfl)⟩ (by unfold vp_in; decide) rfl ?_
  refine J.iload_n 0 d_P_ini_120 rfl rfl ?_
  refine J.nop (pc' := 121) rfl ?_
  refine J.ialdF (c := 48) (x := (5 : Int32)) d_P_ini_121 ⟨by decide, (Nat.le_of_ble_eq_true rfl)⟩ (by unfold vp_in; decide) rfl ?_
  refine J.iastF (c := 55) (m' := MS_19) d_P_ini_122 ⟨by decide, (Nat.le_of_ble_eq_true rfl)⟩ (by unfold vp_in; decide) rfl ?_
  refine J.iinc 0 (v := (1 : Int32)) (lv := [(2, .int (1 : Int32)), (1, .int (1 : Int32)), (0, jr (jGk G 64 FS_51) 45)]) d_P_ini_123 rfl (by decide) (by decide) rfl ?_
  refine J.goto 83 d_P_ini_126 rfl ?_
  refine J.iload_n 0 d_P_ini_83 rfl rfl ?_
  refine J.bipush (v := (6 : Int32)) d_P_ini_84 (by decide) ?_
  refine J.nop (pc' := 86) rfl ?_
  refine J.icmp_ge 129 d_P_ini_86 rfl (fun c => absurd c (by decide)) (fun _ => ?_)
  refine J.aload_n 2 d_P_ini_89 rfl rfl ?_
  refine J.getf (c := 45) (v := jr (jGk G 64 FS_51) 46) d_P_ini_90 flc_P_11 ⟨by decide, (Nat.le_of_ble_eq_true rfl), rfl, rfl⟩ rfl ?_
  refine J.iload_n 1 d_P_ini_93 rfl rfl ?_
  refine J.aald3 (c := 46) (n := 48) d_P_ini_94 ⟨by decide, (Nat.le_of_ble_eq_true rfl)⟩ (by unfold vp_in; decide) rfl ?_
  refine J.iload_n 0 d_P_ini_95 rfl rfl ?_
  refine J.nop (pc' := 96) rfl ?_
  refine J.iload_n 1 d_P_ini_96 rfl rfl ?_
  refine J.iload_n 0 d_P_ini_97 rfl rfl ?_
  refine J.icmp_ne 105 d_P_ini_98 rfl (fun c => absurd c (by decide)) (fun _ => ?_)
  refine J.iconst (v := (0 : Int32)) d_P_ini_101 (by decide) ?_
  refine J.goto 106 d_P_ini_102 rfl ?_
  refine J.iastF (c := 48) (m' := MS_20) d_P_ini_106 ⟨by decide, (Nat.le_of_ble_eq_true rfl)⟩ (by unfold vp_in; decide) rfl ?_
  refine J.nop (pc' := 107) rfl ?_
  refine J.aload_n 2 d_P_ini_107 rfl rfl ?_
  refine J.getf (c := 45) (v := jr (jGk G 64 FS_51) 53) d_P_ini_108 flc_P_16 ⟨by decide, (Nat.le_of_ble_eq_true rfl), rfl, rfl⟩ rfl ?_
  refine J.iload_n 1 d_P_ini_111 rfl rfl ?_
  refine J.aald3 (c := 53) (n := 55) d_P_ini_112 ⟨by decide, (Nat.le_of_ble_eq_true rfl)⟩ (by unfold vp_in; decide) rfl ?_
  refine J.iload_n 0 d_P_ini_113 rfl rfl ?_
  refine J.aload_n 2 d_P_ini_114 rfl rfl ?_
  refine J.nop (pc' := 115) rfl ?_
  refine J.getf (c := 45) (v := jr (jGk G 64 FS_51) 46) d_P_ini_115 flc_P_11 ⟨by decide, (Nat.le_of_ble_eq_true rfl), rfl, rfl⟩ rfl ?_
  refine J.iload_n 1 d_P_ini_118 rfl rfl ?_
  refine J.aald3 (c := 46) (n := 48) d_P_ini_119 ⟨by decide, (Nat.le_of_ble_eq_true rfl)⟩ (by unfold vp_in; decide) rfl ?_
  refine J.iload_n 0 d_P_ini_120 rfl rfl ?_
  refine J.ialdF (c := 48) (x := (0 : Int32)) d_P_ini_121 ⟨by decide, (Nat.le_of_ble_eq_true rfl)⟩ (by unfold vp_in; decide) rfl ?_
  refine J.iastF (c := 55) (m' := MS_21) d_P_ini_122 ⟨by decide, (Nat.le_of_ble_eq_true rfl)⟩ (by unfold vp_in; decide) rfl ?_
  refine J.nop (pc' := 123) rfl ?_
  refine J.iinc 0 (v := (1 : Int32)) (lv := [(2, .int (2 : Int32)), (1, .int (1 : Int32)), (0, jr (jGk G 64 FS_51) 45)]) d_P_ini_123 rfl (by decide) (by decide) rfl ?_
  refine J.goto 83 d_P_ini_126 rfl ?_
  refine J.iload_n 0 d_P_ini_83 rfl rfl ?_
  refine J.bipush (v := (6 : Int32)) d_P_ini_84 (by decide) ?_
  refine J.icmp_ge 129 d_P_ini_86 rfl (fun c => absurd c (by decide)) (fun _ => ?_)
  refine J.aload_n 2 d_P_ini_89 rfl rfl ?_
  refine J.nop (pc' := 90) rfl ?_
  refine J.getf (c := 45) (v := jr (jGk G 64 FS_51) 46) d_P_ini_90 flc_P_11 ⟨by decide, (Nat.le_of_ble_eq_true rfl), rfl, rfl⟩ rfl ?_
  refine J.iload_n 1 d_P_ini_93 rfl rfl ?_
  refine J.aald3 (c := 46) (n := 48) d_P_ini_94 ⟨by decide, (Nat.le_of_ble_eq_true rfl)⟩ (by unfold vp_in; decide) rfl ?_
  refine J.iload_n 0 d_P_ini_95 rfl rfl ?_
  refine J.iload_n 1 d_P_ini_96 rfl rfl ?_
  refine J.iload_n 0 d_P_ini_97 rfl rfl ?_
  refine J.nop (pc' := 98) rfl ?_
  refine J.icmp_ne 105 d_P_ini_98 rfl (fun _ => ?_) (fun c => absurd c (by decide))
  refine J.iconst (v := (5 : Int32)) d_P_ini_105 (by decide) ?_
  refine J.iastF (c := 48) (m' := MS_22) d_P_ini_106 ⟨by decide, (Nat.le_of_ble_eq_true rfl)⟩ (by unfold vp_in; decide) rfl ?_
  refine J.aload_n 2 d_P_ini_107 rfl rfl ?_
  refine J.getf (c := 45) (v := jr (jGk G 64 FS_51) 53) d_P_ini_108 flc_P_16 ⟨by decide, (Nat.le_of_ble_eq_true rfl), rfl, rfl⟩ rfl ?_
  refine J.iload_n 1 d_P_ini_111 rfl rfl ?_
  refine J.nop (pc' := 112) rfl ?_
  refine J.aald3 (c := 53) (n := 55) d_P_ini_112 ⟨by decide, (Nat.le_of_ble_eq_true rfl)⟩ (by unfold vp_in; decide) rfl ?_
  refine J.iload_n 0 d_P_ini_113 rfl rfl ?_
  refine J.aload_n 2 d_P_ini_114 rfl rfl ?_
  refine J.getf (c := 45) (v := jr (jGk G 64 FS_51) 46) d_P_ini_115 flc_P_11 ⟨by decide, (Nat.le_of_ble_eq_true rfl), rfl, rfl⟩ rfl ?_
  refine J.iload_n 1 d_P_ini_118 rfl rfl ?_
  refine J.aald3 (c := 46) (n := 48) d_P_ini_119 ⟨by decide, (Nat.le_of_ble_eq_true rfl)⟩ (by unfold vp_in; decide) rfl ?_
  refine J.nop (pc' := 120) rfl ?_
  refine J.iload_n 0 d_P_ini_120 rfl rfl ?_
  refine J.ialdF (c := 48) (x := (5 : Int32)) d_P_ini_121 ⟨by decide, (Nat.le_of_ble_eq_true rfl)⟩ (by unfold vp_in; decide) rfl ?_
  refine J.iastF (c := 55) (m' := MS_23) d_P_ini_122 ⟨by decide, (Nat.le_of_ble_eq_true rfl)⟩ (by unfold vp_in; decide) rfl ?_
  refine J.iinc 0 (v := (1 : Int32)) (lv := [(2, .int (3 : Int32)), (1, .int (1 : Int32)), (0, jr (jGk G 64 FS_51) 45)]) d_P_ini_123 rfl (by decide) (by decide) rfl ?_
  refine J.goto 83 d_P_ini_126 rfl ?_
  refine J.iload_n 0 d_P_ini_83 rfl rfl ?_
  refine J.nop (pc' := 84) rfl ?_
  refine J.bipush (v := (6 : Int32)) d_P_ini_84 (by decide) ?_
  refine J.icmp_ge 129 d_P_ini_86 rfl (fun c => absurd c (by decide)) (fun _ => ?_)
  refine J.aload_n 2 d_P_ini_89 rfl rfl ?_
  refine J.getf (c := 45) (v := jr (jGk G 64 FS_51) 46) d_P_ini_90 flc_P_11 ⟨by decide, (Nat.le_of_ble_eq_true rfl), rfl, rfl⟩ rfl ?_
  refine J.iload_n 1 d_P_ini_93 rfl rfl ?_
  refine J.aald3 (c := 46) (n := 48) d_P_ini_94 ⟨by decide, (Nat.le_of_ble_eq_true rfl)⟩ (by unfold vp_in; decide) rfl ?_
  refine J.nop (pc' := 95) rfl ?_
  refine J.iload_n 0 d_P_ini_95 rfl rfl ?_
  refine J.iload_n 1 d_P_ini_96 rfl rfl ?_
  refine J.iload_n 0 d_P_ini_97 rfl rfl ?_
  refine J.icmp_ne 105 d_P_ini_98 rfl (fun _ => ?_) (fun c => absurd c (by decide))
  refine J.iconst (v := (5 : Int32)) d_P_ini_105 (by decide) ?_
  refine J.iastF (c := 48) (m' := MS_24) d_P_ini_106 ⟨by decide, (Nat.le_of_ble_eq_true rfl)⟩ (by unfold vp_in; decide) rfl ?_
  refine J.nop (pc' := 107) rfl ?_
  refine J.aload_n 2 d_P_ini_107 rfl rfl ?_
  refine J.getf (c := 45) (v := jr (jGk G 64 FS_51) 53) d_P_ini_108 flc_P_16 ⟨by decide, (Nat.le_of_ble_eq_true rfl), rfl, rfl⟩ rfl ?_
  refine J.iload_n 1 d_P_ini_111 rfl rfl ?_
  refine J.aald3 (c := 53) (n := 55) d_P_ini_112 ⟨by decide, (Nat.le_of_ble_eq_true rfl)⟩ (by unfold vp_in; decide) rfl ?_
  refine J.iload_n 0 d_P_ini_113 rfl rfl ?_
  refine J.aload_n 2 d_P_ini_114 rfl rfl ?_
  refine J.nop (pc' := 115) rfl ?_
  refine J.getf (c := 45) (v := jr (jGk G 64 FS_51) 46) d_P_ini_115 flc_P_11 ⟨by decide, (Nat.le_of_ble_eq_true rfl), rfl, rfl⟩ rfl ?_
  refine J.iload_n 1 d_P_ini_118 rfl rfl ?_
  refine J.aald3 (c := 46) (n := 48) d_P_ini_119 ⟨by decide, (Nat.le_of_ble_eq_true rfl)⟩ (by unfold vp_in; decide) rfl ?_
  refine J.iload_n 0 d_P_ini_120 rfl rfl ?_
  refine J.ialdF (c := 48) (x := (5 : Int32)) d_P_ini_121 ⟨by decide, (Nat.le_of_ble_eq_true rfl)⟩ (by unfold vp_in; decide) rfl ?_
  refine J.iastF (c := 55) (m' := MS_25) d_P_ini_122 ⟨by decide, (Nat.le_of_ble_eq_true rfl)⟩ (by unfold vp_in; decide) rfl ?_
  refine J.nop (pc' := 123) rfl ?_
  refine J.iinc 0 (v := (1 : Int32)) (lv := [(2, .int (4 : Int32)), (1, .int (1 : Int32)), (0, jr (jGk G 64 FS_51) 45)]) d_P_ini_123 rfl (by decide) (by decide) rfl ?_
  refine J.goto 83 d_P_ini_126 rfl ?_
  refine J.iload_n 0 d_P_ini_83 rfl rfl ?_
  refine J.bipush (v := (6 : Int32)) d_P_ini_84 (by decide) ?_
  refine J.icmp_ge 129 d_P_ini_86 rfl (fun c => absurd c (by decide)) (fun _ => ?_)
  refine J.aload_n 2 d_P_ini_89 rfl rfl ?_
  refine J.nop (pc' := 90) rfl ?_
  refine J.getf (c := 45) (v := jr (jGk G 64 FS_51) 46) d_P_ini_90 flc_P_11 ⟨by decide, (Nat.le_of_ble_eq_true rfl), rfl, rfl⟩ rfl ?_
  refine J.iload_n 1 d_P_ini_93 rfl rfl ?_
  refine J.aald3 (c := 46) (n := 48) d_P_ini_94 ⟨by decide, (Nat.le_of_ble_eq_true rfl)⟩ (by unfold vp_in; decide) rfl ?_
  refine J.iload_n 0 d_P_ini_95 rfl rfl ?_
  refine J.iload_n 1 d_P_ini_96 rfl rfl ?_
  refine J.iload_n 0 d_P_ini_97 rfl rfl ?_
  refine J.nop (pc' := 98) rfl ?_
  refine J.icmp_ne 105 d_P_ini_98 rfl (fun _ => ?_) (fun c => absurd c (by decide))
  refine J.iconst (v := (5 : Int32)) d_P_ini_105 (by decide) ?_
  refine J.iastF (c := 48) (m' := MS_26) d_P_ini_106 ⟨by decide, (Nat.le_of_ble_eq_true rfl)⟩ (by unfold vp_in; decide) rfl ?_
  refine J.aload_n 2 d_P_ini_107 rfl rfl ?_
  refine J.getf (c := 45) (v := jr (jGk G 64 FS_51) 53) d_P_ini_108 flc_P_16 ⟨by decide, (Nat.le_of_ble_eq_true rfl), rfl, rfl⟩ rfl ?_
  refine J.iload_n 1 d_P_ini_111 rfl rfl ?_
  refine J.nop (pc' := 112) rfl ?_
  refine J.aald3 (c := 53) (n := 55) d_P_ini_112 ⟨by decide, (Nat.le_of_ble_eq_true rfl)⟩ (by unfold vp_in; decide) rfl ?_
  refine J.iload_n 0 d_P_ini_113 rfl rfl ?_
  refine J.aload_n 2 d_P_ini_114 rfl rfl ?_
  refine J.getf (c := 45) (v := jr (jGk G 64 FS_51) 46) d_P_ini_115 flc_P_11 ⟨by decide, (Nat.le_of_ble_eq_true rfl), rfl, rfl⟩ rfl ?_
  refine J.iload_n 1 d_P_ini_118 rfl rfl ?_
  refine J.aald3 (c := 46) (n := 48) d_P_ini_119 ⟨by decide, (Nat.le_of_ble_eq_true rfl)⟩ (by unfold vp_in; decide) rfl ?_
  refine J.nop (pc' := 120) rfl ?_
  refine J.iload_n 0 d_P_ini_120 rfl rfl ?_
  refine J.ialdF (c := 48) (x := (5 : Int32)) d_P_ini_121 ⟨by decide, (Nat.le_of_ble_eq_true rfl)⟩ (by unfold vp_in; decide) rfl ?_
  refine J.iastF (c := 55) (m' := MS_27) d_P_ini_122 ⟨by decide, (Nat.le_of_ble_eq_true rfl)⟩ (by unfold vp_in; decide) rfl ?_
  refine J.iinc 0 (v := (1 : Int32)) (lv := [(2, .int (5 : Int32)), (1, .int (1 : Int32)), (0, jr (jGk G 64 FS_51) 45)]) d_P_ini_123 rfl (by decide) (by decide) rfl ?_
  refine J.goto 83 d_P_ini_126 rfl ?_
  refine J.iload_n 0 d_P_ini_83 rfl rfl ?_
  refine J.nop (pc' := 84) rfl ?_
  refine J.bipush (v := (6 : Int32)) d_P_ini_84 (by decide) ?_
  refine J.icmp_ge 129 d_P_ini_86 rfl (fun c => absurd c (by decide)) (fun _ => ?_)
  refine J.aload_n 2 d_P_ini_89 rfl rfl ?_
  refine J.getf (c := 45) (v := jr (jGk G 64 FS_51) 46) d_P_ini_90 flc_P_11 ⟨by decide, (Nat.le_of_ble_eq_true rfl), rfl, rfl⟩ rfl ?_
  refine J.iload_n 1 d_P_ini_93 rfl rfl ?_
  refine J.aald3 (c := 46) (n := 48) d_P_ini_94 ⟨by decide, (Nat.le_of_ble_eq_true rfl)⟩ (by unfold vp_in; decide) rfl ?_
  refine J.nop (pc' := 95) rfl ?_
  refine J.iload_n 0 d_P_ini_95 rfl rfl ?_
  refine J.iload_n 1 d_P_ini_96 rfl rfl ?_
  refine J.iload_n 0 d_P_ini_97 rfl rfl ?_
  refine J.icmp_ne 105 d_P_ini_98 rfl (fun _ => ?_) (fun c => absurd c (by decide))
  refine J.iconst (v := (5 : Int32)) d_P_ini_105 (by decide) ?_
  refine J.iastF (c := 48) (m' := MS_28) d_P_ini_106 ⟨by decide, (Nat.le_of_ble_eq_true rfl)⟩ (by unfold vp_in; decide) rfl ?_
  refine J.nop (pc' := 107) rfl ?_
  refine J.aload_n 2 d_P_ini_107 rfl rfl ?_
  refine J.getf (c := 45) (v := jr (jGk G 64 FS_51) 53) d_P_ini_108 flc_P_16 ⟨by decide, (Nat.le_of_ble_eq_true rfl), rfl, rfl⟩ rfl ?_
  refine J.iload_n 1 d_P_ini_111 rfl rfl ?_
  refine J.aald3 (c := 53) (n := 55) d_P_ini_112 ⟨by decide, (Nat.le_of_ble_eq_true rfl)⟩ (by unfold vp_in; decide) rfl ?_
  refine J.iload_n 0 d_P_ini_113 rfl rfl ?_
  refine J.aload_n 2 d_P_ini_114 rfl rfl ?_
  refine J.nop (pc' := 115) rfl ?_
  refine J.getf (c := 45) (v := jr (jGk G 64 FS_51) 46) d_P_ini_115 flc_P_11 ⟨by decide, (Nat.le_of_ble_eq_true rfl), rfl, rfl⟩ rfl ?_
  refine J.iload_n 1 d_P_ini_118 rfl rfl ?_
  refine J.aald3 (c := 46) (n := 48) d_P_ini_119 ⟨by decide, (Nat.le_of_ble_eq_true rfl)⟩ (by unfold vp_in; decide) rfl ?_
  refine J.iload_n 0 d_P_ini_120 rfl rfl ?_
  refine J.ialdF (c := 48) (x := (5 : Int32)) d_P_ini_121 ⟨by decide, (Nat.le_of_ble_eq_true rfl)⟩ (by unfold vp_in; decide) rfl ?_
  refine J.iastF (c := 55) (m' := MS_29) d_P_ini_122 ⟨by decide, (Nat.le_of_ble_eq_true rfl)⟩ (by unfold vp_in; decide) rfl ?_
  refine J.nop (pc' := 123) rfl ?_
  refine J.iinc 0 (v := (1 : Int32)) (lv := [(2, .int (6 : Int32)), (1, .int (1 : Int32)), (0, jr (jGk G 64 FS_51) 45)]) d_P_ini_123 rfl (by decide) (by decide) rfl ?_
  refine J.goto 83 d_P_ini_126 rfl ?_
  refine J.iload_n 0 d_P_ini_83 rfl rfl ?_
  refine J.bipush (v := (6 : Int32)) d_P_ini_84 (by decide) ?_
  refine J.icmp_ge 129 d_P_ini_86 rfl (fun _ => ?_) (fun c => absurd c (by decide))
  refine J.iinc 1 (v := (1 : Int32)) (lv := [(1, .int (2 : Int32)), (2, .int (6 : Int32)), (0, jr (jGk G 64 FS_51) 45)]) d_P_ini_129 rfl (by decide) (by decide) rfl ?_
  refine J.nop (pc' := 132) rfl ?_
  refine J.goto 75 d_P_ini_132 rfl ?_
  refine J.iload_n 0 d_P_ini_75 rfl rfl ?_
  refine J.bipush (v := (6 : Int32)) d_P_ini_76 (by decide) ?_
  refine J.icmp_ge 135 d_P_ini_78 rfl (fun c => absurd c (by decide)) (fun _ => ?_)
  refine J.iconst (v := (0 : Int32)) d_P_ini_81 (by decide) ?_
  refine J.istore_n (lv := [(2, .int (0 : Int32)), (1, .int (2 : Int32)), (0, jr (jGk G 64 FS_51) 45)]) d_P_ini_82 rfl (by decide) rfl ?_
  refine J.nop (pc' := 83) rfl ?_
  refine J.iload_n 0 d_P_ini_83 rfl rfl ?_
  refine J.bipush (v := (6 : Int32)) d_P_ini_84 (by decide) ?_
  refine J.icmp_ge 129 d_P_ini_86 rfl (fun c => absurd c (by decide)) (fun _ => ?_)
  refine J.aload_n 2 d_P_ini_89 rfl rfl ?_
  refine J.getf (c := 45) (v := jr (jGk G 64 FS_51) 46) d_P_ini_90 flc_P_11 ⟨by decide, (Nat.le_of_ble_eq_true rfl), rfl, rfl⟩ rfl ?_
  refine J.iload_n 1 d_P_ini_93 rfl rfl ?_
  refine J.nop (pc' := 94) rfl ?_
  refine J.aald3 (c := 46) (n := 49) d_P_ini_94 ⟨by decide, (Nat.le_of_ble_eq_true rfl)⟩ (by unfold vp_in; decide) rfl ?_
  refine J.iload_n 0 d_P_ini_95 rfl rfl ?_
  refine J.iload_n 1 d_P_ini_96 rfl rfl ?_
  refine J.iload_n 0 d_P_ini_97 rfl rfl ?_
  refine J.icmp_ne 105 d_P_ini_98 rfl (fun _ => ?_) (fun c => absurd c (by decide))
  refine J.iconst (v := (5 : Int32)) d_P_ini_105 (by decide) ?_
  refine J.nop (pc' := 106) rfl ?_
  refine J.iastF (c := 49) (m' := MS_30) d_P_ini_106 ⟨by decide, (Nat.le_of_ble_eq_true rfl)⟩ (by unfold vp_in; decide) rfl ?_
  refine J.aload_n 2 d_P_ini_107 rfl rfl ?_
  refine J.getf (c := 45) (v := jr (jGk G 64 FS_51) 53) d_P_ini_108 flc_P_16 ⟨by decide, (Nat.le_of_ble_eq_true rfl), rfl, rfl⟩ rfl ?_
  refine J.iload_n 1 d_P_ini_111 rfl rfl ?_
  refine J.aald3 (c := 53) (n := 56) d_P_ini_112 ⟨by decide, (Nat.le_of_ble_eq_true rfl)⟩ (by unfold vp_in; decide) rfl ?_
  refine J.iload_n 0 d_P_ini_113 rfl rfl ?_
  refine J.nop (pc' := 114) rfl ?_
  refine J.aload_n 2 d_P_ini_114 rfl rfl ?_
  refine J.getf (c := 45) (v := jr (jGk G 64 FS_51) 46) d_P_ini_115 flc_P_11 ⟨by decide, (Nat.le_of_ble_eq_true rfl), rfl, rfl⟩ rfl ?_
  refine J.iload_n 1 d_P_ini_118 rfl rfl ?_
  refine J.aald3 (c := 46) (n := 49) d_P_ini_119 ⟨by decide, (Nat.le_of_ble_eq_true rfl)⟩ (by unfold vp_in; decide) rfl ?_
  refine J.iload_n 0 d_P_ini_120 rfl rfl ?_
  refine J.ialdF (c := 49) (x := (5 : Int32)) d_P_ini_121 ⟨by decide, (Nat.le_of_ble_eq_true rfl)⟩ (by unfold vp_in; decide) rfl ?_
  refine J.nop (pc' := 122) rfl ?_
  refine J.iastF (c := 56) (m' := MS_31) d_P_ini_122 ⟨by decide, (Nat.le_of_ble_eq_true rfl)⟩ (by unfold vp_in; decide) rfl ?_
  refine J.iinc 0 (v := (1 : Int32)) (lv := [(2, .int (1 : Int32)), (1, .int (2 : Int32)), (0, jr (jGk G 64 FS_51) 45)]) d_P_ini_123 rfl (by decide) (by decide) rfl ?_
  refine J.goto 83 d_P_ini_126 rfl ?_
  refine J.iload_n 0 d_P_ini_83 rfl rfl ?_
  refine J.bipush (v := (6 : Int32)) d_P_ini_84 (by decide) ?_
  refine J.icmp_ge 129 d_P_ini_86 rfl (fun c => absurd c (by decide)) (fun _ => ?_)
  refine J.nop (pc' := 89) rfl ?_
  refine J.aload_n 2 d_P_ini_89 rfl rfl ?_
  refine J.getf (c := 45) (v := jr (jGk G 64 FS_51) 46) d_P_ini_90 flc_P_11 ⟨by decide, (Nat.le_of_ble_eq_true rfl), rfl, rfl⟩ rfl ?_
  refine J.iload_n 1 d_P_ini_93 rfl rfl ?_
  refine J.aald3 (c := 46) (n := 49) d_P_ini_94 ⟨by decide, (Nat.le_of_ble_eq_true rfl)⟩ (by unfold vp_in; decide) rfl ?_
  refine J.iload_n 0 d_P_ini_95 rfl rfl ?_
  refine J.iload_n 1 d_P_ini_96 rfl rfl ?_
  refine J.nop (pc' := 97) rfl ?_
  refine J.iload_n 0 d_P_ini_97 rfl rfl ?_
  refine J.icmp_ne 105 d_P_ini_98 rfl (fun _ => ?_) (fun c => absurd c (by decide))
  refine J.iconst (v := (5 : Int32)) d_P_ini_105 (by decide) ?_
  refine J.iastF (c := 49) (m' := MS_32) d_P_ini_106 ⟨by decide, (Nat.le_of_ble_eq_true rfl)⟩ (by unfold vp_in; decide) rfl ?_
  refine J.aload_n 2 d_P_ini_107 rfl rfl ?_
  refine J.getf (c := 45) (v := jr (jGk G 64 FS_51) 53) d_P_ini_108 flc_P_16 ⟨by decide, (Nat.le_of_ble_eq_true rfl), rfl, rfl⟩ rfl ?_
  refine J.nop (pc' := 111) rfl ?_
  refine J.iload_n 1 d_P_ini_111 rfl rfl ?_
  refine J.aald3 (c := 53) (n := 56) d_P_ini_112 ⟨by decide, (Nat.le_of_ble_eq_true rfl)⟩ (by unfold vp_in; decide) rfl ?_
  refine J.iload_n 0 d_P_ini_113 rfl rfl ?_
  refine J.aload_n 2 d_P_ini_114 rfl rfl ?_
  refine J.getf (c := 45) (v := jr (jGk G 64 FS_51) 46) d_P_ini_115 flc_P_11 ⟨by decide, (Nat.le_of_ble_eq_true rfl), rfl, rfl⟩ rfl ?_
  refine J.iload_n 1 d_P_ini_118 rfl rfl ?_
  refine J.nop (pc' := 119) rfl ?_
  refine J.aald3 (c := 46) (n := 49) d_P_ini_119 ⟨by decide, (Nat.le_of_ble_eq_true rfl)⟩ (by unfold vp_in; decide) rfl ?_
  refine J.iload_n 0 d_P_ini_120 rfl rfl ?_
  refine J.ialdF (c := 49) (x := (5 : Int32)) d_P_ini_121 ⟨by decide, (Nat.le_of_ble_eq_true rfl)⟩ (by unfold vp_in; decide) rfl ?_
  refine J.iastF (c := 56) (m' := MS_33) d_P_ini_122 ⟨by decide, (Nat.le_of_ble_eq_true rfl)⟩ (by unfold vp_in; decide) rfl ?_
  refine J.iinc 0 (v := (1 : Int32)) (lv := [(2, .int (2 : Int32)), (1, .int (2 : Int32)), (0, jr (jGk G 64 FS_51) 45)]) d_P_ini_123 rfl (by decide) (by decide) rfl ?_
  refine J.goto 83 d_P_ini_126 rfl ?_
  refine J.nop (pc' := 83) rfl ?_
  refine J.iload_n 0 d_P_ini_83 rfl rfl ?_
  refine J.bipush (v := (6 : Int32)) d_P_ini_84 (by decide) ?_
  refine J.icmp_ge 129 d_P_ini_86 rfl (fun c => absurd c (by decide)) (fun _ => ?_)
  refine J.aload_n 2 d_P_ini_89 rfl rfl ?_
  refine J.getf (c := 45) (v := jr (jGk G 64 FS_51) 46) d_P_ini_90 flc_P_11 ⟨by decide, (Nat.le_of_ble_eq_true rfl), rfl, rfl⟩ rfl ?_
  refine J.iload_n 1 d_P_ini_93 rfl rfl ?_
  refine J.nop (pc' := 94) rfl ?_
  refine J.aald3 (c := 46) (n := 49) d_P_ini_94 ⟨by decide, (Nat.le_of_ble_eq_true rfl)⟩ (by unfold vp_in; decide) rfl ?_
  refine J.iload_n 0 d_P_ini_95 rfl rfl ?_
  refine J.iload_n 1 d_P_ini_96 rfl rfl ?_
  refine J.iload_n 0 d_P_ini_97 rfl rfl ?_
  refine J.icmp_ne 105 d_P_ini_98 rfl (fun c => absurd c (by decide)) (fun _ => ?_)
  refine J.iconst (v := (0 : Int32)) d_P_ini_101 (by decide) ?_
  refine J.nop (pc' := 102) rfl ?_
  refine J.goto 106 d_P_ini_102 rfl ?_
  refine J.iastF (c := 49) (m' := MS_34) d_P_ini_106 ⟨by decide, (Nat.le_of_ble_eq_true rfl)⟩ (by unfold vp_in; decide) rfl ?_
  refine J.aload_n 2 d_P_ini_107 rfl rfl ?_
  refine J.getf (c := 45) (v := jr (jGk G 64 FS_51) 53) d_P_ini_108 flc_P_16 ⟨by decide, (Nat.le_of_ble_eq_true rfl), rfl, rfl⟩ rfl ?_
  refine J.iload_n 1 d_P_ini_111 rfl rfl ?_
  refine J.aald3 (c := 53) (n := 56) d_P_ini_112 ⟨by decide, (Nat.le_of_ble_eq_true rfl)⟩ (by unfold vp_in; decide) rfl ?_
  refine J.nop (pc' := 113) rfl ?_
  refine J.iload_n 0 d_P_ini_113 rfl rfl ?_
  refine J.aload_n 2 d_P_ini_114 rfl rfl ?_
  refine J.getf (c := 45) (v := jr (jGk G 64 FS_51) 46) d_P_ini_115 flc_P_11 ⟨by decide, (Nat.le_of_ble_eq_true rfl), rfl, rfl⟩ rfl ?_
  refine J.iload_n 1 d_P_ini_118 rfl rfl ?_
  refine J.aald3 (c := 46) (n := 49) d_P_ini_119 ⟨by decide, (Nat.le_of_ble_eq_true rfl)⟩ (by unfold vp_in; decide) rfl ?_
  refine J.iload_n 0 d_P_ini_120 rfl rfl ?_
  refine J.nop (pc' := 121) rfl ?_
  refine J.ialdF (c := 49) (x := (0 : Int32)) d_P_ini_121 ⟨by decide, (Nat.le_of_ble_eq_true rfl)⟩ (by unfold vp_in; decide) rfl ?_
  refine J.iastF (c := 56) (m' := MS_35) d_P_ini_122 ⟨by decide, (Nat.le_of_ble_eq_true rfl)⟩ (by unfold vp_in; decide) rfl ?_
  refine J.iinc 0 (v := (1 : Int32)) (lv := [(2, .int (3 : Int32)), (1, .int (2 : Int32)), (0, jr (jGk G 64 FS_51) 45)]) d_P_ini_123 rfl (by decide) (by decide) rfl ?_
  refine J.goto 83 d_P_ini_126 rfl ?_
  refine J.iload_n 0 d_P_ini_83 rfl rfl ?_
  refine J.bipush (v := (6 : Int32)) d_P_ini_84 (by decide) ?_
  refine J.nop (pc' := 86) rfl ?_
  refine J.icmp_ge 129 d_P_ini_86 rfl (fun c => absurd c (by decide)) (fun _ => ?_)
  refine J.aload_n 2 d_P_ini_89 rfl rfl ?_
  refine J.getf (c := 45) (v := jr (jGk G 64 FS_51) 46) d_P_ini_90 flc_P_11 ⟨by decide, (Nat.le_of_ble_eq_true rfl), rfl, rfl⟩ rfl ?_
  refine J.iload_n 1 d_P_ini_93 rfl rfl ?_
  refine J.aald3 (c := 46) (n := 49) d_P_ini_94 ⟨by decide, (Nat.le_of_ble_eq_true rfl)⟩ (by unfold vp_in; decide) rfl ?_
  refine J.iload_n 0 d_P_ini_95 rfl rfl ?_
  refine J.nop (pc' := 96) rfl ?_
  refine J.iload_n 1 d_P_ini_96 rfl rfl ?_
  refine J.iload_n 0 d_P_ini_97 rfl rfl ?_
  refine J.icmp_ne 105 d_P_ini_98 rfl (fun _ => ?_) (fun c => absurd c (by decide))
  refine J.iconst (v := (5 : Int32)) d_P_ini_105 (by decide) ?_
  refine J.iastF (c := 49) (m' := MS_36) d_P_ini_106 ⟨by decide, (Nat.le_of_ble_eq_true rfl)⟩ (by unfold vp_in; decide) rfl ?_
  refine J.aload_n 2 d_P_ini_107 rfl rfl ?_
  refine J.nop (pc' := 108) rfl ?_
  refine J.getf (c := 45) (v := jr (jGk G 64 FS_51) 53) d_P_ini_108 flc_P_16 ⟨by decide, (Nat.le_of_ble_eq_true rfl), rfl, rfl⟩ rfl ?_
  refine J.iload_n 1 d_P_ini_111 rfl rfl ?_
  refine J.aald3 (c := 53) (n := 56) d_P_ini_112 ⟨by decide, (Nat.le_of_ble_eq_true rfl)⟩ (by unfold vp_in; decide) rfl ?_
  refine J.iload_n 0 d_P_ini_113 rfl rfl ?_
  refine J.aload_n 2 d_P_ini_114 rfl rfl ?_
  refine J.getf (c := 45) (v := jr (jGk G 64 FS_51) 46) d_P_ini_115 flc_P_11 ⟨by decide, (Nat.le_of_ble_eq_true rfl), rfl, rfl⟩ rfl ?_
  refine J.nop (pc' := 118) rfl ?_
  refine J.iload_n 1 d_P_ini_118 rfl rfl ?_
  refine J.aald3 (c := 46) (n := 49) d_P_ini_119 ⟨by decide, (Nat.le_of_ble_eq_true rfl)⟩ (by unfold vp_in; decide) rfl ?_
  refine J.iload_n 0 d_P_ini_120 rfl rfl ?_
  refine J.ialdF (c := 49) (x := (5 : Int32)) d_P_ini_121 ⟨by decide, (Nat.le_of_ble_eq_true rfl)⟩ (by unfold vp_in; decide) rfl ?_
  refine J.iastF (c := 56) (m' := MS_37) d_P_ini_122 ⟨by decide, (Nat.le_of_ble_eq_true rfl)⟩ (by unfold vp_in; decide) rfl ?_
  refine J.iinc 0 (v := (1 : Int32)) (lv := [(2, .int (4 : Int32)), (1, .int (2 : Int32)), (0, jr (jGk G 64 FS_51) 45)]) d_P_ini_123 rfl (by decide) (by decide) rfl ?_
  refine J.nop (pc' := 126) rfl ?_
  refine J.goto 83 d_P_ini_126 rfl ?_
  refine J.iload_n 0 d_P_ini_83 rfl rfl ?_
  refine J.bipush (v := (6 : Int32)) d_P_ini_84 (by decide) ?_
  refine J.icmp_ge 129 d_P_ini_86 rfl (fun c => absurd c (by decide)) (fun _ => ?_)
  refine J.aload_n 2 d_P_ini_89 rfl rfl ?_
  refine J.getf (c := 45) (v := jr (jGk G 64 FS_51) 46) d_P_ini_90 flc_P_11 ⟨by decide, (Nat.le_of_ble_eq_true rfl), rfl, rfl⟩ rfl ?_
  refine J.nop (pc' := 93) rfl ?_
  refine J.iload_n 1 d_P_ini_93 rfl rfl ?_
  refine J.aald3 (c := 46) (n := 49) d_P_ini_94 ⟨by decide, (Nat.le_of_ble_eq_true rfl)⟩ (by unfold vp_in; decide) rfl ?_
  refine J.iload_n 0 d_P_ini_95 rfl rfl ?_
  refine J.iload_n 1 d_P_ini_96 rfl rfl ?_
  refine J.iload_n 0 d_P_ini_97 rfl rfl ?_
  refine J.icmp_ne 105 d_P_ini_98 rfl (fun _ => ?_) (fun c => absurd c (by decide))
  refine J.nop (pc' := 105) rfl ?_
  refine J.iconst (v := (5 : Int32)) d_P_ini_105 (by decide) ?_
  refine J.iastF (c := 49) (m' := MS_38) d_P_ini_106 ⟨by decide, (Nat.le_of_ble_eq_true rfl)⟩ (by unfold vp_in; decide) rfl ?_
  refine J.aload_n 2 d_P_ini_107 rfl rfl ?_
  refine J.getf (c := 45) (v := jr (jGk G 64 FS_51) 53) d_P_ini_108 flc_P_16 ⟨by decide, (Nat.le_of_ble_eq_true rfl), rfl, rfl⟩ rfl ?_
  refine J.iload_n 1 d_P_ini_111 rfl rfl ?_
  refine J.aald3 (c := 53) (n := 56) d_P_ini_112 ⟨by decide, (Nat.le_of_ble_eq_true rfl)⟩ (by unfold vp_in; decide) rfl ?_
  refine J.nop (pc' := 113) rfl ?_
  refine J.iload_n 0 d_P_ini_113 rfl rfl ?_
  refine J.aload_n 2 d_P_ini_114 rfl rfl ?_
  refine J.getf (c := 45) (v := jr (jGk G 64 FS_51) 46) d_P_ini_115 flc_P_11 ⟨by decide, (Nat.le_of_ble_eq_true rfl), rfl, rfl⟩ rfl ?_
  refine J.iload_n 1 d_P_ini_118 rfl rfl ?_
  refine J.aald3 (c := 46) (n := 49) d_P_ini_119 ⟨by decide, (Nat.le_of_ble_eq_true rfl)⟩ (by unfold vp_in; decide) rfl ?_
  refine J.iload_n 0 d_P_ini_120 rfl rfl ?_
  refine J.nop (pc' := 121) rfl ?_
  refine J.ialdF (c := 49) (x := (5 : Int32)) d_P_ini_121 ⟨by decide, (Nat.le_of_ble_eq_true rfl)⟩ (by unfold vp_in; decide) rfl ?_
  refine J.iastF (c := 56) (m' := MS_39) d_P_ini_122 ⟨by decide, (Nat.le_of_ble_eq_true rfl)⟩ (by unfold vp_in; decide) rfl ?_
  refine J.iinc 0 (v := (1 : Int32)) (lv := [(2, .int (5 : Int32)), (1, .int (2 : Int32)), (0, jr (jGk G 64 FS_51) 45)]) d_P_ini_123 rfl (by decide) (by decide) rfl ?_
  refine J.goto 83 d_P_ini_126 rfl ?_
  refine J.iload_n 0 d_P_ini_83 rfl rfl ?_
  refine J.bipush (v := (6 : Int32)) d_P_ini_84 (by decide) ?_
  refine J.nop (pc' := 86) rfl ?_
  refine J.icmp_ge 129 d_P_ini_86 rfl (fun c => absurd c (by decide)) (fun _ => ?_)
  refine J.aload_n 2 d_P_ini_89 rfl rfl ?_
  refine J.getf (c := 45) (v := jr (jGk G 64 FS_51) 46) d_P_ini_90 flc_P_11 ⟨by decide, (Nat.le_of_ble_eq_true rfl), rfl, rfl⟩ rfl ?_
  refine J.iload_n 1 d_P_ini_93 rfl rfl ?_
  refine J.aald3 (c := 46) (n := 49) d_P_ini_94 ⟨by decide, (Nat.le_of_ble_eq_true rfl)⟩ (by unfold vp_in; decide) rfl ?_
  refine J.iload_n 0 d_P_ini_95 rfl rfl ?_
  refine J.nop (pc' := 96) rfl ?_
  refine J.iload_n 1 d_P_ini_96 rfl rfl ?_
  refine J.iload_n 0 d_P_ini_97 rfl rfl ?_
  refine J.icmp_ne 105 d_P_ini_98 rfl (fun _ => ?_) (fun c => absurd c (by decide))
  refine J.iconst (v := (5 : Int32)) d_P_ini_105 (by decide) ?_
  refine J.iastF (c := 49) (m' := MS_40) d_P_ini_106 ⟨by decide, (Nat.le_of_ble_eq_true rfl)⟩ (by unfold vp_in; decide) rfl ?_
  refine J.aload_n 2 d_P_ini_107 rfl rfl ?_
  refine J.nop (pc' := 108) rfl ?_
  refine J.getf (c := 45) (v := jr (jGk G 64 FS_51) 53) d_P_ini_108 flc_P_16 ⟨by decide, (Nat.le_of_ble_eq_true rfl), rfl, rfl⟩ rfl ?_
  refine J.iload_n 1 d_P_ini_111 rfl rfl ?_
  refine J.aald3 (c := 53) (n := 56) d_P_ini_112 ⟨by decide, (Nat.le_of_ble_eq_true rfl)⟩ (by unfold vp_in; decide) rfl ?_
  refine J.iload_n 0 d_P_ini_113 rfl rfl ?_
  refine J.aload_n 2 d_P_ini_114 rfl rfl ?_
  refine J.getf (c := 45) (v := jr (jGk G 64 FS_51) 46) d_P_ini_115 flc_P_11 ⟨by decide, (Nat.le_of_ble_eq_true rfl), rfl, rfl⟩ rfl ?_
  refine J.nop (pc' := 118) rfl ?_
  refine J.iload_n 1 d_P_ini_118 rfl rfl ?_
  refine J.aald3 (c := 46) (n := 49) d_P_ini_119 ⟨by decide, (Nat.le_of_ble_eq_true rfl)⟩ (by unfold vp_in; decide) rfl ?_
  refine J.iload_n 0 d_P_ini_120 rfl rfl ?_
  refine J.ialdF (c := 49) (x := (5 : Int32)) d_P_ini_121 ⟨by decide, (Nat.le_of_ble_eq_true rfl)⟩ (by unfold vp_in; decide) rfl ?_
  refine J.iastF (c := 56) (m' := MS_41) d_P_ini_122 ⟨by decide, (Nat.le_of_ble_eq_true rfl)⟩ (by unfold vp_in; decide) rfl ?_
  refine J.iinc 0 (v := (1 : Int32)) (lv := [(2, .int (6 : Int32)), (1, .int (2 : Int32)), (0, jr (jGk G 64 FS_51) 45)]) d_P_ini_123 rfl (by decide) (by decide) rfl ?_
  refine J.nop (pc' := 126) rfl ?_
  refine J.goto 83 d_P_ini_126 rfl ?_
  refine J.iload_n 0 d_P_ini_83 rfl rfl ?_
  refine J.bipush (v := (6 : Int32)) d_P_ini_84 (by decide) ?_
  refine J.icmp_ge 129 d_P_ini_86 rfl (fun _ => ?_) (fun c => absurd c (by decide))
  refine J.iinc 1 (v := (1 : Int32)) (lv := [(1, .int (3 : Int32)), (2, .int (6 : Int32)), (0, jr (jGk G 64 FS_51) 45)]) d_P_ini_129 rfl (by decide) (by decide) rfl ?_
  refine J.goto 75 d_P_ini_132 rfl ?_
  refine J.nop (pc' := 75) rfl ?_
  refine J.iload_n 0 d_P_ini_75 rfl rfl ?_
  refine J.bipush (v := (6 : Int32)) d_P_ini_76 (by decide) ?_
  refine J.icmp_ge 135 d_P_ini_78 rfl (fun c => absurd c (by decide)) (fun _ => ?_)
  refine J.iconst (v := (0 : Int32)) d_P_ini_81 (by decide) ?_
  refine J.istore_n (lv := [(2, .int (0 : Int32)), (1, .int (3 : Int32)), (0, jr (jGk G 64 FS_51) 45)]) d_P_ini_82 rfl (by decide) rfl ?_
  refine J.iload_n 0 d_P_ini_83 rfl rfl ?_
  refine J.nop (pc' := 84) rfl ?_
  refine J.bipush (v := (6 : Int32)) d_P_ini_84 (by decide) ?_
  refine J.icmp_ge 129 d_P_ini_86 rfl (fun c => absurd c (by decide)) (fun _ => ?_)
  refine J.aload_n 2 d_P_ini_89 rfl rfl ?_
  refine J.getf (c := 45) (v := jr (jGk G 64 FS_51) 46) d_P_ini_90 flc_P_11 ⟨by decide, (Nat.le_of_ble_eq_true rfl), rfl, rfl⟩ rfl ?_
  refine J.iload_n 1 d_P_ini_93 rfl rfl ?_
  refine J.aald3 (c := 46) (n := 50) d_P_ini_94 ⟨by decide, (Nat.le_of_ble_eq_true rfl)⟩ (by unfold vp_in; decide) rfl ?_
  refine J.nop (pc' := 95) rfl ?_
  refine J.iload_n 0 d_P_ini_95 rfl rfl ?_
  refine J.iload_n 1 d_P_ini_96 rfl rfl ?_
  refine J.iload_n 0 d_P_ini_97 rfl rfl ?_
  refine J.icmp_ne 105 d_P_ini_98 rfl (fun _ => ?_) (fun c => absurd c (by decide))
  refine J.iconst (v := (5 : Int32)) d_P_ini_105 (by decide) ?_
  refine J.iastF (c := 50) (m' := MS_42) d_P_ini_106 ⟨by decide, (Nat.le_of_ble_eq_true rfl)⟩ (by unfold vp_in; decide) rfl ?_
  refine J.nop (pc' := 107) rfl ?_
  refine J.aload_n 2 d_P_ini_107 rfl rfl ?_
  refine J.getf (c := 45) (v := jr (jGk G 64 FS_51) 53) d_P_ini_108 flc_P_16 ⟨by decide, (Nat.le_of_ble_eq_true rfl), rfl, rfl⟩ rfl ?_
  refine J.iload_n 1 d_P_ini_111 rfl rfl ?_
  refine J.aald3 (c := 53) (n := 57) d_P_ini_112 ⟨by decide, (Nat.le_of_ble_eq_true rfl)⟩ (by unfold vp_in; decide) rfl ?_
  refine J.iload_n 0 d_P_ini_113 rfl rfl ?_
  refine J.aload_n 2 d_P_ini_114 rfl rfl ?_
  refine J.nop (pc' := 115) rfl ?_
  refine J.getf (c := 45) (v := jr (jGk G 64 FS_51) 46) d_P_ini_115 flc_P_11 ⟨by decide, (Nat.le_of_ble_eq_true rfl), rfl, rfl⟩ rfl ?_
  refine J.iload_n 1 d_P_ini_118 rfl rfl ?_
  refine J.aald3 (c := 46) (n := 50) d_P_ini_119 ⟨by decide, (Nat.le_of_ble_eq_true rfl)⟩ (by unfold vp_in; decide) rfl ?_
  refine J.iload_n 0 d_P_ini_120 rfl rfl ?_
  refine J.ialdF (c := 50) (x := (5 : Int32)) d_P_ini_121 ⟨by decide, (Nat.le_of_ble_eq_true rfl)⟩ (by unfold vp_in; decide) rfl ?_
  refine J.iastF (c := 57) (m' := MS_43) d_P_ini_122 ⟨by decide, (Nat.le_of_ble_eq_true rfl)⟩ (by unfold vp_in; decide) rfl ?_
  refine J.nop (pc' := 123) rfl ?_
  refine J.iinc 0 (v := (1 : Int32)) (lv := [(2, .int (1 : Int32)), (1, .int (3 : Int32)), (0, jr (jGk G 64 FS_51) 45)]) d_P_ini_123 rfl (by decide) (by decide) rfl ?_
  refine J.goto 83 d_P_ini_126 rfl ?_
  refine J.iload_n 0 d_P_ini_83 rfl rfl ?_
  refine J.bipush (v := (6 : Int32)) d_P_ini_84 (by decide) ?_
  refine J.icmp_ge 129 d_P_ini_86 rfl (fun c => absurd c (by decide)) (fun _ => ?_)
  refine J.aload_n 2 d_P_ini_89 rfl rfl ?_
  refine J.nop (pc' := 90) rfl ?_
  refine J.getf (c := 45) (v := jr (jGk G 64 FS_51) 46) d_P_ini_90 flc_P_11 ⟨by decide, (Nat.le_of_ble_eq_true rfl), rfl, rfl⟩ rfl ?_
  refine J.iload_n 1 d_P_ini_93 rfl rfl ?_
  refine J.aald3 (c := 46) (n := 50) d_P_ini_94 ⟨by decide, (Nat.le_of_ble_eq_true rfl)⟩ (by unfold vp_in; decide) rfl ?_
  refine J.iload_n 0 d_P_ini_95 rfl rfl ?_
  refine J.iload_n 1 d_P_ini_96 rfl rfl ?_
  refine J.iload_n 0 d_P_ini_97 rfl rfl ?_
  refine J.nop (pc' := 98) rfl ?_
  refine J.icmp_ne 105 d_P_ini_98 rfl (fun _ => ?_) (fun c => absurd c (by decide))
  refine J.iconst (v := (5 : Int32)) d_P_ini_105 (by decide) ?_
  refine J.iastF (c := 50) (m' := MS_44) d_P_ini_106 ⟨by decide, (Nat.le_of_ble_eq_true rfl)⟩ (by unfold vp_in; decide) rfl ?_
  refine J.aload_n 2 d_P_ini_107 rfl rfl ?_
  refine J.getf (c := 45) (v := jr (jGk G 64 FS_51) 53) d_P_ini_108 flc_P_16 ⟨by decide, (Nat.le_of_ble_eq_true rfl), rfl, rfl⟩ rfl ?_
  refine J.iload_n 1 d_P_ini_111 rfl rfl ?_
  refine J.nop (pc' := 112) rfl ?_
  refine J.aald3 (c := 53) (n := 57) d_P_ini_112 ⟨by decide, (Nat.le_of_ble_eq_true rfl)⟩ (by unfold vp_in; decide) rfl ?_
  refine J.iload_n 0 d_P_ini_113 rfl rfl ?_
  refine J.aload_n 2 d_P_ini_114 rfl rfl ?_
  refine J.getf (c := 45) (v := jr (jGk G 64 FS_51) 46) d_P_ini_115 flc_P_11 ⟨by decide, (Nat.le_of_ble_eq_true rfl), rfl, rfl⟩ rfl ?_
  refine J.iload_n 1 d_P_ini_118 rfl rfl ?_
  refine J.aald3 (c := 46) (n := 50) d_P_ini_119 ⟨by decide, (Nat.le_of_ble_eq_true rfl)⟩ (by unfold vp_in; decide) rfl ?_
  refine J.nop (pc' := 120) rfl ?_
  refine J.iload_n 0 d_P_ini_120 rfl rfl ?_
  refine J.ialdF (c := 50) (x := (5 : Int32)) d_P_ini_121 ⟨by decide, (Nat.le_of_ble_eq_true rfl)⟩ (by unfold vp_in; decide) rfl ?_
  refine J.iastF (c := 57) (m' := MS_45) d_P_ini_122 ⟨by decide, (Nat.le_of_ble_eq_true rfl)⟩ (by unfold vp_in; decide) rfl ?_
  refine J.iinc 0 (v := (1 : Int32)) (lv := [(2, .int (2 : Int32)), (1, .int (3 : Int32)), (0, jr (jGk G 64 FS_51) 45)]) d_P_ini_123 rfl (by decide) (by decide) rfl ?_
  refine J.goto 83 d_P_ini_126 rfl ?_
  refine J.iload_n 0 d_P_ini_83 rfl rfl ?_
  refine J.nop (pc' := 84) rfl ?_
  refine J.bipush (v := (6 : Int32)) d_P_ini_84 (by decide) ?_
  refine J.icmp_ge 129 d_P_ini_86 rfl (fun c => absurd c (by decide)) (fun _ => ?_)
  refine J.aload_n 2 d_P_ini_89 rfl rfl ?_
  refine J.getf (c := 45) (v := jr (jGk G 64 FS_51) 46) d_P_ini_90 flc_P_11 ⟨by decide, (Nat.le_of_ble_eq_true rfl), rfl, rfl⟩ rfl ?_
  refine J.iload_n 1 d_P_ini_93 rfl rfl ?_
  refine J.aald3 (c := 46) (n := 50) d_P_ini_94 ⟨by decide, (Nat.le_of_ble_eq_true rfl)⟩ (by unfold vp_in; decide) rfl ?_
  refine J.nop (pc' := 95) rfl ?_
  refine J.iload_n 0 d_P_ini_95 rfl rfl ?_
  refine J.iload_n 1 d_P_ini_96 rfl rfl ?_
  refine J.iload_n 0 d_P_ini_97 rfl rfl ?_
  refine J.icmp_ne 105 d_P_ini_98 rfl (fun _ => ?_) (fun c => absurd c (by decide))
  refine J.iconst (v := (5 : Int32)) d_P_ini_105 (by decide) ?_
  refine J.iastF (c := 50) (m' := MS_46) d_P_ini_106 ⟨by decide, (Nat.le_of_ble_eq_true rfl)⟩ (by unfold vp_in; decide) rfl ?_
  refine J.nop (pc' := 107) rfl ?_
  refine J.aload_n 2 d_P_ini_107 rfl rfl ?_
  refine J.getf (c := 45) (v := jr (jGk G 64 FS_51) 53) d_P_ini_108 flc_P_16 ⟨by decide, (Nat.le_of_ble_eq_true rfl), rfl, rfl⟩ rfl ?_
  refine J.iload_n 1 d_P_ini_111 rfl rfl ?_
  refine J.aald3 (c := 53) (n := 57) d_P_ini_112 ⟨by decide, (Nat.le_of_ble_eq_true rfl)⟩ (by unfold vp_in; decide) rfl ?_
  refine J.iload_n 0 d_P_ini_113 rfl rfl ?_
  refine J.aload_n 2 d_P_ini_114 rfl rfl ?_
  refine J.nop (pc' := 115) rfl ?_
  refine J.getf (c := 45) (v := jr (jGk G 64 FS_51) 46) d_P_ini_115 flc_P_11 ⟨by decide, (Nat.le_of_ble_eq_true rfl), rfl, rfl⟩ rfl ?_
  refine J.iload_n 1 d_P_ini_118 rfl rfl ?_
  refine J.aald3 (c := 46) (n := 50) d_P_ini_119 ⟨by decide, (Nat.le_of_ble_eq_true rfl)⟩ (by unfold vp_in; decide) rfl ?_
  refine J.iload_n 0 d_P_ini_120 rfl rfl ?_
  refine J.ialdF (c := 50) (x := (5 : Int32)) d_P_ini_121 ⟨by decide, (Nat.le_of_ble_eq_true rfl)⟩ (by unfold vp_in; decide) rfl ?_
  refine J.iastF (c := 57) (m' := MS_47) d_P_ini_122 ⟨by decide, (Nat.le_of_ble_eq_true rfl)⟩ (by unfold vp_in; decide) rfl ?_
  refine J.nop (pc' := 123) rfl ?_
  refine J.iinc 0 (v := (1 : Int32)) (lv := [(2, .int (3 : Int32)), (1, .int (3 : Int32)), (0, jr (jGk G 64 FS_51) 45)]) d_P_ini_123 rfl (by decide) (by decide) rfl ?_
  refine J.goto 83 d_P_ini_126 rfl ?_
  refine J.iload_n 0 d_P_ini_83 rfl rfl ?_
  refine J.bipush (v := (6 : Int32)) d_P_ini_84 (by decide) ?_
  refine J.icmp_ge 129 d_P_ini_86 rfl (fun c => absurd c (by decide)) (fun _ => ?_)
  refine J.aload_n 2 d_P_ini_89 rfl rfl ?_
  refine J.nop (pc' := 90) rfl ?_
  refine J.getf (c := 45) (v := jr (jGk G 64 FS_51) 46) d_P_ini_90 flc_P_11 ⟨by decide, (Nat.le_of_ble_eq_true rfl), rfl, rfl⟩ rfl ?_
  refine J.iload_n 1 d_P_ini_93 rfl rfl ?_
  refine J.aald3 (c := 46) (n := 50) d_P_ini_94 ⟨by decide, (Nat.le_of_ble_eq_true rfl)⟩ (by unfold vp_in; decide) rfl ?_
  refine J.iload_n 0 d_P_ini_95 rfl rfl ?_
  refine J.iload_n 1 d_P_ini_96 rfl rfl ?_
  refine J.iload_n 0 d_P_ini_97 rfl rfl ?_
  refine J.nop (pc' := 98) rfl ?_
  refine J.icmp_ne 105 d_P_ini_98 rfl (fun c => absurd c (by decide)) (fun _ => ?_)
  refine J.iconst (v := (0 : Int32)) d_P_ini_101 (by decide) ?_
  refine J.goto 106 d_P_ini_102 rfl ?_
  refine J.iastF (c := 50) (m' := MS_48) d_P_ini_106 ⟨by decide, (Nat.le_of_ble_eq_true rfl)⟩ (by unfold vp_in; decide) rfl ?_
  refine J.aload_n 2 d_P_ini_107 rfl rfl ?_
  refine J.getf (c := 45) (v := jr (jGk G 64 FS_51) 53) d_P_ini_108 flc_P_16 ⟨by decide, (Nat.le_of_ble_eq_true rfl), rfl, rfl⟩ rfl ?_
  refine J.nop (pc' := 111) rfl ?_
  refine J.iload_n 1 d_P_ini_111 rfl rfl ?_
  refine J.aald3 (c := 53) (n := 57) d_P_ini_112 ⟨by decide, (Nat.le_of_ble_eq_true rfl)⟩ (by unfold vp_in; decide) rfl ?_
  refine J.iload_n 0 d_P_ini_113 rfl rfl ?_
  refine J.aload_n 2 d_P_ini_114 rfl rfl ?_
  refine J.getf (c := 45) (v := jr (jGk G 64 FS_51) 46) d_P_ini_115 flc_P_11 ⟨by decide, (Nat.le_of_ble_eq_true rfl), rfl, rfl⟩ rfl ?_
  refine J.iload_n 1 d_P_ini_118 rfl rfl ?_
  refine J.nop (pc' := 119) rfl ?_
  refine J.aald3 (c := 46) (n := 50) d_P_ini_119 ⟨by decide, (Nat.le_of_ble_eq_true rfl)⟩ (by unfold vp_in; decide) rfl ?_
  refine J.iload_n 0 d_P_ini_120 rfl rfl ?_
  refine J.ialdF (c := 50) (x := (0 : Int32)) d_P_ini_121 ⟨by decide, (Nat.le_of_ble_eq_true rfl)⟩ (by unfold vp_in; decide) rfl ?_
  refine J.iastF (c := 57) (m' := MS_49) d_P_ini_122 ⟨by decide, (Nat.le_of_ble_eq_true rfl)⟩ (by unfold vp_in; decide) rfl ?_
  refine J.iinc 0 (v := (1 : Int32)) (lv := [(2, .int (4 : Int32)), (1, .int (3 : Int32)), (0, jr (jGk G 64 FS_51) 45)]) d_P_ini_123 rfl (by decide) (by decide) rfl ?_
  refine J.goto 83 d_P_ini_126 rfl ?_
  refine J.nop (pc' := 83) rfl ?_
  refine J.iload_n 0 d_P_ini_83 rfl rfl ?_
  refine J.bipush (v := (6 : Int32)) d_P_ini_84 (by decide) ?_
  refine J.icmp_ge 129 d_P_ini_86 rfl (fun c => absurd c (by decide)) (fun _ => ?_)
  refine J.aload_n 2 d_P_ini_89 rfl rfl ?_
  refine J.getf (c := 45) (v := jr (jGk G 64 FS_51) 46) d_P_ini_90 flc_P_11 ⟨by decide, (Nat.le_of_ble_eq_true rfl), rfl, rfl⟩ rfl ?_
  refine J.iload_n 1 d_P_ini_93 rfl rfl ?_
  refine J.nop (pc' := 94) rfl ?_
  refine J.aald3 (c := 46) (n := 50) d_P_ini_94 ⟨by decide, (Nat.le_of_ble_eq_true rfl)⟩ (by unfold vp_in; decide) rfl ?_
  refine J.iload_n 0 d_P_ini_95 rfl rfl ?_
  refine J.iload_n 1 d_P_ini_96 rfl rfl ?_
  refine J.iload_n 0 d_P_ini_97 rfl rfl ?_
  refine J.icmp_ne 105 d_P_ini_98 rfl (fun _ => ?_) (fun c => absurd c (by decide))
  refine J.iconst (v := (5 : Int32)) d_P_ini_105 (by decide) ?_
  refine J.nop (pc' := 106) rfl ?_
  refine J.iastF (c := 50) (m' := MS_50) d_P_ini_106 ⟨by decide, (Nat.le_of_ble_eq_true rfl)⟩ (by unfold vp_in; decide) rfl ?_
  refine J.aload_n 2 d_P_ini_107 rfl rfl ?_
  refine J.getf (c := 45) (v := jr (jGk G 64 FS_51) 53) d_P_ini_108 flc_P_16 ⟨by decide, (Nat.le_of_ble_eq_true rfl), rfl, rfl⟩ rfl ?_
  refine J.iload_n 1 d_P_ini_111 rfl rfl ?_
  refine J.aald3 (c := 53) (n := 57) d_P_ini_112 ⟨by decide, (Nat.le_of_ble_eq_true rfl)⟩ (by unfold vp_in; decide) rfl ?_
  refine J.iload_n 0 d_P_ini_113 rfl rfl ?_
  refine J.nop (pc' := 114) rfl ?_
  refine J.aload_n 2 d_P_ini_114 rfl rfl ?_
  refine J.getf (c := 45) (v := jr (jGk G 64 FS_51) 46) d_P_ini_115 flc_P_11 ⟨by decide, (Nat.le_of_ble_eq_true rfl), rfl, rfl⟩ rfl ?_
  refine J.iload_n 1 d_P_ini_118 rfl rfl ?_
  refine J.aald3 (c := 46) (n := 50) d_P_ini_119 ⟨by decide, (Nat.le_of_ble_eq_true rfl)⟩ (by unfold vp_in; decide) rfl ?_
  refine J.iload_n 0 d_P_ini_120 rfl rfl ?_
  refine J.ialdF (c := 50) (x := (5 : Int32)) d_P_ini_121 ⟨by decide, (Nat.le_of_ble_eq_true rfl)⟩ (by unfold vp_in; decide) rfl ?_
  refine J.nop (pc' := 122) rfl ?_
  refine J.iastF (c := 57) (m' := MS_51) d_P_ini_122 ⟨by decide, (Nat.le_of_ble_eq_true rfl)⟩ (by unfold vp_in; decide) rfl ?_
  refine J.iinc 0 (v := (1 : Int32)) (lv := [(2, .int (5 : Int32)), (1, .int (3 : Int32)), (0, jr (jGk G 64 FS_51) 45)]) d_P_ini_123 rfl (by decide) (by decide) rfl ?_
  refine J.goto 83 d_P_ini_126 rfl ?_
  refine J.iload_n 0 d_P_ini_83 rfl rfl ?_
  refine J.bipush (v := (6 : Int32)) d_P_ini_84 (by decide) ?_
  refine J.icmp_ge 129 d_P_ini_86 rfl (fun c => absurd c (by decide)) (fun _ => ?_)
  refine J.nop (pc' := 89) rfl ?_
  refine J.aload_n 2 d_P_ini_89 rfl rfl ?_
  refine J.getf (c := 45) (v := jr (jGk G 64 FS_51) 46) d_P_ini_90 flc_P_11 ⟨by decide, (Nat.le_of_ble_eq_true rfl), rfl, rfl⟩ rfl ?_
  refine J.iload_n 1 d_P_ini_93 rfl rfl ?_
  refine J.aald3 (c := 46) (n := 50) d_P_ini_94 ⟨by decide, (Nat.le_of_ble_eq_true rfl)⟩ (by unfold vp_in; decide) rfl ?_
  refine J.iload_n 0 d_P_ini_95 rfl rfl ?_
  refine J.iload_n 1 d_P_ini_96 rfl rfl ?_
  refine J.nop (pc' := 97) rfl ?_
  refine J.iload_n 0 d_P_ini_97 rfl rfl ?_
  refine J.icmp_ne 105 d_P_ini_98 rfl (fun _ => ?_) (fun c => absurd c (by decide))
  refine J.iconst (v := (5 : Int32)) d_P_ini_105 (by decide) ?_
  refine J.iastF (c := 50) (m' := MS_52) d_P_ini_106 ⟨by decide, (Nat.le_of_ble_eq_true rfl)⟩ (by unfold vp_in; decide) rfl ?_
  refine J.aload_n 2 d_P_ini_107 rfl rfl ?_
  refine J.getf (c := 45) (v := jr (jGk G 64 FS_51) 53) d_P_ini_108 flc_P_16 ⟨by decide, (Nat.le_of_ble_eq_true rfl), rfl, rfl⟩ rfl ?_
  refine J.nop (pc' := 111) rfl ?_
  refine J.iload_n 1 d_P_ini_111 rfl rfl ?_
  refine J.aald3 (c := 53) (n := 57) d_P_ini_112 ⟨by decide, (Nat.le_of_ble_eq_true rfl)⟩ (by unfold vp_in; decide) rfl ?_
  refine J.iload_n 0 d_P_ini_113 rfl rfl ?_
  refine J.aload_n 2 d_P_ini_114 rfl rfl ?_
  refine J.getf (c := 45) (v := jr (jGk G 64 FS_51) 46) d_P_ini_115 flc_P_11 ⟨by decide, (Nat.le_of_ble_eq_true rfl), rfl, rfl⟩ rfl ?_
  refine J.iload_n 1 d_P_ini_118 rfl rfl ?_
  refine J.nop (pc' := 119) rfl ?_
  refine J.aald3 (c := 46) (n := 50) d_P_ini_119 ⟨by decide, (Nat.le_of_ble_eq_true rfl)⟩ (by unfold vp_in; decide) rfl ?_
  refine J.iload_n 0 d_P_ini_120 rfl rfl ?_
  refine J.ialdF (c := 50) (x := (5 : Int32)) d_P_ini_121 ⟨by decide, (Nat.le_of_ble_eq_true rfl)⟩ (by unfold vp_in; decide) rfl ?_
  refine J.iastF (c := 57) (m' := MS_53) d_P_ini_122 ⟨by decide, (Nat.le_of_ble_eq_true rfl)⟩ (by unfold vp_in; decide) rfl ?_
  refine J.iinc 0 (v := (1 : Int32)) (lv := [(2, .int (6 : Int32)), (1, .int (3 : Int32)), (0, jr (jGk G 64 FS_51) 45)]) d_P_ini_123 rfl (by decide) (by decide) rfl ?_
  refine J.goto 83 d_P_ini_126 rfl ?_
  refine J.nop (pc' := 83) rfl ?_
  refine J.iload_n 0 d_P_ini_83 rfl rfl ?_
  refine J.bipush (v := (6 : Int32)) d_P_ini_84 (by decide) ?_
  refine J.icmp_ge 129 d_P_ini_86 rfl (fun _ => ?_) (fun c => absurd c (by decide))
  refine J.iinc 1 (v := (1 : Int32)) (lv := [(1, .int (4 : Int32)), (2, .int (6 : Int32)), (0, jr (jGk G 64 FS_51) 45)]) d_P_ini_129 rfl (by decide) (by decide) rfl ?_
  refine J.goto 75 d_P_ini_132 rfl ?_
  refine J.iload_n 0 d_P_ini_75 rfl rfl ?_
  refine J.nop (pc' := 76) rfl ?_
  refine J.bipush (v := (6 : Int32)) d_P_ini_76 (by decide) ?_
  refine J.icmp_ge 135 d_P_ini_78 rfl (fun c => absurd c (by decide)) (fun _ => ?_)
  refine J.iconst (v := (0 : Int32)) d_P_ini_81 (by decide) ?_
  refine J.istore_n (lv := [(2, .int (0 : Int32)), (1, .int (4 : Int32)), (0, jr (jGk G 64 FS_51) 45)]) d_P_ini_82 rfl (by decide) rfl ?_
  refine J.iload_n 0 d_P_ini_83 rfl rfl ?_
  refine J.bipush (v := (6 : Int32)) d_P_ini_84 (by decide) ?_
  refine J.nop (pc' := 86) rfl ?_
  refine J.icmp_ge 129 d_P_ini_86 rfl (fun c => absurd c (by decide)) (fun _ => ?_)
  refine J.aload_n 2 d_P_ini_89 rfl rfl ?_
  refine J.getf (c := 45) (v := jr (jGk G 64 FS_51) 46) d_P_ini_90 flc_P_11 ⟨by decide, (Nat.le_of_ble_eq_true rfl), rfl, rfl⟩ rfl ?_
  refine J.iload_n 1 d_P_ini_93 rfl rfl ?_
  refine J.aald3 (c := 46) (n := 51) d_P_ini_94 ⟨by decide, (Nat.le_of_ble_eq_true rfl)⟩ (by unfold vp_in; decide) rfl ?_
  refine J.iload_n 0 d_P_ini_95 rfl rfl ?_
  refine J.nop (pc' := 96) rfl ?_
  refine J.iload_n 1 d_P_ini_96 rfl rfl ?_
  refine J.iload_n 0 d_P_ini_97 rfl rfl ?_
  refine J.icmp_ne 105 d_P_ini_98 rfl (fun _ => ?_) (fun c => absurd c (by decide))
  refine J.iconst (v := (5 : Int32)) d_P_ini_105 (by decide) ?_
  refine J.iastF (c := 51) (m' := MS_54) d_P_ini_106 ⟨by decide, (Nat.le_of_ble_eq_true rfl)⟩ (by unfold vp_in; decide) rfl ?_
  refine J.aload_n 2 d_P_ini_107 rfl rfl ?_
  refine J.nop (pc' := 108) rfl ?_
  refine J.getf (c := 45) (v := jr (jGk G 64 FS_51) 53) d_P_ini_108 flc_P_16 ⟨by decide, (Nat.le_of_ble_eq_true rfl), rfl, rfl⟩ rfl ?_
  refine J.iload_n 1 d_P_ini_111 rfl rfl ?_
  refine J.aald3 (c := 53) (n := 58) d_P_ini_112 ⟨by decide, (Nat.le_of_ble_eq_true rfl)⟩ (by unfold vp_in; decide) rfl ?_
  refine J.iload_n 0 d_P_ini_113 rfl rfl ?_
  refine J.aload_n 2 d_P_ini_114 rfl rfl ?_
  refine J.getf (c := 45) (v := jr (jGk G 64 FS_51) 46) d_P_ini_115 flc_P_11 ⟨by decide, (Nat.le_of_ble_eq_true rfl), rfl, rfl⟩ rfl ?_
  refine J.nop (pc' := 118) rfl ?_
  refine J.iload_n 1 d_P_ini_118 rfl rfl ?_
  refine J.aald3 (c := 46) (n := 51) d_P_ini_119 ⟨by decide, (Nat.le_of_ble_eq_true rfl)⟩ (by unfold vp_in; decide) rfl ?_
  refine J.iload_n 0 d_P_ini_120 rfl rfl ?_
  refine J.ialdF (c := 51) (x := (5 : Int32)) d_P_ini_121 ⟨by decide, (Nat.le_of_ble_eq_true rfl)⟩ (by unfold vp_in; decide) rfl ?_
  refine J.iastF (c := 58) (m' := MS_55) d_P_ini_122 ⟨by decide, (Nat.le_of_ble_eq_true rfl)⟩ (by unfold vp_in; decide) rfl ?_
  refine J.iinc 0 (v := (1 : Int32)) (lv := [(2, .int (1 : Int32)), (1, .int (4 : Int32)), (0, jr (jGk G 64 FS_51) 45)]) d_P_ini_123 rfl (by decide) (by decide) rfl ?_
  refine J.nop (pc' := 126) rfl ?_
  refine J.goto 83 d_P_ini_126 rfl ?_
  refine J.iload_n 0 d_P_ini_83 rfl rfl ?_
  refine J.bipush (v := (6 : Int32)) d_P_ini_84 (by decide) ?_
  refine J.icmp_ge 129 d_P_ini_86 rfl (fun c => absurd c (by decide)) (fun _ => ?_)
  refine J.aload_n 2 d_P_ini_89 rfl rfl ?_
  refine J.getf (c := 45) (v := jr (jGk G 64 FS_51) 46) d_P_ini_90 flc_P_11 ⟨by decide, (Nat.le_of_ble_eq_true rfl), rfl, rfl⟩ rfl ?_
  refine J.nop (pc' := 93) rfl ?_
  refine J.iload_n 1 d_P_ini_93 rfl rfl ?_
  refine J.aald3 (c := 46) (n := 51) d_P_ini_94 ⟨by decide, (Nat.le_of_ble_eq_true rfl)⟩ (by unfold vp_in; decide) rfl ?_
  refine J.iload_n 0 d_P_ini_95 rfl rfl ?_
  refine J.iload_n 1 d_P_ini_96 rfl rfl ?_
  refine J.iload_n 0 d_P_ini_97 rfl rfl ?_
  refine J.icmp_ne 105 d_P_ini_98 rfl (fun _ => ?_) (fun c => absurd c (by decide))
  refine J.nop (pc' := 105) rfl ?_
  refine J.iconst (v := (5 : Int32)) d_P_ini_105 (by decide) ?_
  refine J.iastF (c := 51) (m' := MS_56) d_P_ini_106 ⟨by decide, (Nat.le_of_ble_eq_true rfl)⟩ (by unfold vp_in; decide) rfl ?_
  refine J.aload_n 2 d_P_ini_107 rfl rfl ?_
  refine J.getf (c := 45) (v := jr (jGk G 64 FS_51) 53) d_P_ini_108 flc_P_16 ⟨by decide, (Nat.le_of_ble_eq_true rfl), rfl, rfl⟩ rfl ?_
  refine J.iload_n 1 d_P_ini_111 rfl rfl ?_
  refine J.aald3 (c := 53) (n := 58) d_P_ini_112 ⟨by decide, (Nat.le_of_ble_eq_true rfl)⟩ (by unfold vp_in; decide) rfl ?_
  refine J.nop (pc' := 113) rfl ?_
  refine J.iload_n 0 d_P_ini_113 rfl rfl ?_
  refine J.aload_n 2 d_P_ini_114 rfl rfl ?_
  refine J.getf (c := 45) (v := jr (jGk G 64 FS_51) 46) d_P_ini_115 flc_P_11 ⟨by decide, (Nat.le_of_ble_eq_true rfl), rfl, rfl⟩ rfl ?_
  refine J.iload_n 1 d_P_ini_118 rfl rfl ?_
  refine J.aald3 (c := 46) (n := 51) d_P_ini_119 ⟨by decide, (Nat.le_of_ble_eq_true rfl)⟩ (by unfold vp_in; decide) rfl ?_
  refine J.iload_n 0 d_P_ini_120 rfl rfl ?_
  refine J.nop (pc' := 121) rfl ?_
  refine J.ialdF (c := 51) (x := (5 : Int32)) d_P_ini_121 ⟨by decide, (Nat.le_of_ble_eq_true rfl)⟩ (by unfold vp_in; decide) rfl ?_
  refine J.iastF (c := 58) (m' := MS_57) d_P_ini_122 ⟨by decide, (Nat.le_of_ble_eq_true rfl)⟩ (by unfold vp_in; decide) rfl ?_
  refine J.iinc 0 (v := (1 : Int32)) (lv := [(2, .int (2 : Int32)), (1, .int (4 : Int32)), (0, jr (jGk G 64 FS_51) 45)]) d_P_ini_123 rfl (by decide) (by decide) rfl ?_
  refine J.goto 83 d_P_ini_126 rfl ?_
  refine J.iload_n 0 d_P_ini_83 rfl rfl ?_
  refine J.bipush (v := (6 : Int32)) d_P_ini_84 (by decide) ?_
  refine J.nop (pc' := 86) rfl ?_
  refine J.icmp_ge 129 d_P_ini_86 rfl (fun c => absurd c (by decide)) (fun _ => ?_)
  refine J.aload_n 2 d_P_ini_89 rfl rfl ?_
  refine J.getf (c := 45) (v := jr (jGk G 64 FS_51) 46) d_P_ini_90 flc_P_11 ⟨by decide, (Nat.le_of_ble_eq_true rfl), rfl, rfl⟩ rfl ?_
  refine J.iload_n 1 d_P_ini_93 rfl rfl ?_
  refine J.aald3 (c := 46) (n := 51) d_P_ini_94 ⟨by decide, (Nat.le_of_ble_eq_true rfl)⟩ (by unfold vp_in; decide) rfl ?_
  refine J.iload_n 0 d_P_ini_95 rfl rfl ?_
  refine J.nop (pc' := 96) rfl ?_
  refine J.iload_n 1 d_P_ini_96 rfl rfl ?_
  refine J.iload_n 0 d_P_ini_97 rfl rfl ?_
  refine J.icmp_ne 105 d_P_ini_98 rfl (fun _ => ?_) (fun c => absurd c (by decide))
  refine J.iconst (v := (5 : Int32)) d_P_ini_105 (by decide) ?_
  refine J.iastF (c := 51) (m' := MS_58) d_P_ini_106 ⟨by decide, (Nat.le_of_ble_eq_true rfl)⟩ (by unfold vp_in; decide) rfl ?_
  refine J.aload_n 2 d_P_ini_107 rfl rfl ?_
  refine J.nop (pc' := 108) rfl ?_
  refine J.getf (c := 45) (v := jr (jGk G 64 FS_51) 53) d_P_ini_108 flc_P_16 ⟨by decide, (Nat.le_of_ble_eq_true rfl), rfl, rfl⟩ rfl ?_
  refine J.iload_n 1 d_P_ini_111 rfl rfl ?_
  refine J.aald3 (c := 53) (n := 58) d_P_ini_112 ⟨by decide, (Nat.le_of_ble_eq_true rfl)⟩ (by unfold vp_in; decide) rfl ?_
  refine J.iload_n 0 d_P_ini_113 rfl rfl ?_
  refine J.aload_n 2 d_P_ini_114 rfl rfl ?_
  refine J.getf (c := 45) (v := jr (jGk G 64 FS_51) 46) d_P_ini_115 flc_P_11 ⟨by decide, (Nat.le_of_ble_eq_true rfl), rfl, rfl⟩ rfl ?_
  refine J.nop (pc' := 118) rfl ?_
  refine J.iload_n 1 d_P_ini_118 rfl rfl ?_
  refine J.aald3 (c := 46) (n := 51) d_P_ini_119 ⟨by decide, (Nat.le_of_ble_eq_true rfl)⟩ (by unfold vp_in; decide) rfl ?_
  refine J.iload_n 0 d_P_ini_120 rfl rfl ?_
  refine J.ialdF (c := 51) (x := (5 : Int32)) d_P_ini_121 ⟨by decide, (Nat.le_of_ble_eq_true rfl)⟩ (by unfold vp_in; decide) rfl ?_
  refine J.iastF (c := 58) (m' := MS_59) d_P_ini_122 ⟨by decide, (Nat.le_of_ble_eq_true rfl)⟩ (by unfold vp_in; decide) rfl ?_
  refine J.iinc 0 (v := (1 : Int32)) (lv := [(2, .int (3 : Int32)), (1, .int (4 : Int32)), (0, jr (jGk G 64 FS_51) 45)]) d_P_ini_123 rfl (by decide) (by decide) rfl ?_
  refine J.nop (pc' := 126) rfl ?_
  refine J.goto 83 d_P_ini_126 rfl ?_
  refine J.iload_n 0 d_P_ini_83 rfl rfl ?_
  refine J.bipush (v := (6 : Int32)) d_P_ini_84 (by decide) ?_
  refine J.icmp_ge 129 d_P_ini_86 rfl (fun c => absurd c (by decide)) (fun _ => ?_)
  refine J.aload_n 2 d_P_ini_89 rfl rfl ?_
  refine J.getf (c := 45) (v := jr (jGk G 64 FS_51) 46) d_P_ini_90 flc_P_11 ⟨by decide, (Nat.le_of_ble_eq_true rfl), rfl, rfl⟩ rfl ?_
  refine J.nop (pc' := 93) rfl ?_
  refine J.iload_n 1 d_P_ini_93 rfl rfl ?_
  refine J.aald3 (c := 46) (n := 51) d_P_ini_94 ⟨by decide, (Nat.le_of_ble_eq_true rfl)⟩ (by unfold vp_in; decide) rfl ?_
  refine J.iload_n 0 d_P_ini_95 rfl rfl ?_
  refine J.iload_n 1 d_P_ini_96 rfl rfl ?_
  refine J.iload_n 0 d_P_ini_97 rfl rfl ?_
  refine J.icmp_ne 105 d_P_ini_98 rfl (fun _ => ?_) (fun c => absurd c (by decide))
  refine J.nop (pc' := 105) rfl ?_
  refine J.iconst (v := (5 : Int32)) d_P_ini_105 (by decide) ?_
  refine J.iastF (c := 51) (m' := MS_60) d_P_ini_106 ⟨by decide, (Nat.le_of_ble_eq_true rfl)⟩ (by unfold vp_in; decide) rfl ?_
  refine J.aload_n 2 d_P_ini_107 rfl rfl ?_
  refine J.getf (c := 45) (v := jr (jGk G 64 FS_51) 53) d_P_ini_108 flc_P_16 ⟨by decide, (Nat.le_of_ble_eq_true rfl), rfl, rfl⟩ rfl ?_
  refine J.iload_n 1 d_P_ini_111 rfl rfl ?_
  refine J.aald3 (c := 53) (n := 58) d_P_ini_112 ⟨by decide, (Nat.le_of_ble_eq_true rfl)⟩ (by unfold vp_in; decide) rfl ?_
  refine J.nop (pc' := 113) rfl ?_
  refine J.iload_n 0 d_P_ini_113 rfl rfl ?_
  refine J.aload_n 2 d_P_ini_114 rfl rfl ?_
  refine J.getf (c := 45) (v := jr (jGk G 64 FS_51) 46) d_P_ini_115 flc_P_11 ⟨by decide, (Nat.le_of_ble_eq_true rfl), rfl, rfl⟩ rfl ?_
  refine J.iload_n 1 d_P_ini_118 rfl rfl ?_
  refine J.aald3 (c := 46) (n := 51) d_P_ini_119 ⟨by decide, (Nat.le_of_ble_eq_true rfl)⟩ (by unfold vp_in; decide) rfl ?_
  refine J.iload_n 0 d_P_ini_120 rfl rfl ?_
  refine J.nop (pc' := 121) rfl ?_
  refine J.ialdF (c := 51) (x := (5 : Int32)) d_P_ini_121 ⟨by decide, (Nat.le_of_ble_eq_true rfl)⟩ (by unfold vp_in; decide) rfl ?_
  refine J.iastF (c := 58) (m' := MS_61) d_P_ini_122 ⟨by decide, (Nat.le_of_ble_eq_true rfl)⟩ (by unfold vp_in; decide) rfl ?_
  refine J.iinc 0 (v := (1 : Int32)) (lv := [(2, .int (4 : Int32)), (1, .int (4 : Int32)), (0, jr (jGk G 64 FS_51) 45)]) d_P_ini_123 rfl (by decide) (by decide) rfl ?_
  refine J.goto 83 d_P_ini_126 rfl ?_
  refine J.iload_n 0 d_P_ini_83 rfl rfl ?_
  refine J.bipush (v := (6 : Int32)) d_P_ini_84 (by decide) ?_
  refine J.nop (pc' := 86) rfl ?_
  refine J.icmp_ge 129 d_P_ini_86 rfl (fun c => absurd c (by decide)) (fun _ => ?_)
  refine J.aload_n 2 d_P_ini_89 rfl rfl ?_
  refine J.getf (c := 45) (v := jr (jGk G 64 FS_51) 46) d_P_ini_90 flc_P_11 ⟨by decide, (Nat.le_of_ble_eq_true rfl), rfl, rfl⟩ rfl ?_
  refine J.iload_n 1 d_P_ini_93 rfl rfl ?_
  refine J.aald3 (c := 46) (n := 51) d_P_ini_94 ⟨by decide, (Nat.le_of_ble_eq_true rfl)⟩ (by unfold vp_in; decide) rfl ?_
  refine J.iload_n 0 d_P_ini_95 rfl rfl ?_
  refine J.nop (pc' := 96) rfl ?_
  refine J.iload_n 1 d_P_ini_96 rfl rfl ?_
  refine J.iload_n 0 d_P_ini_97 rfl rfl ?_
  refine J.icmp_ne 105 d_P_ini_98 rfl (fun c => absurd c (by decide)) (fun _ => ?_)
  refine J.iconst (v := (0 : Int32)) d_P_ini_101 (by decide) ?_
  refine J.goto 106 d_P_ini_102 rfl ?_
  refine J.iastF (c := 51) (m' := MS_62) d_P_ini_106 ⟨by decide, (Nat.le_of_ble_eq_true rfl)⟩ (by unfold vp_in; decide) rfl ?_
  refine J.nop (pc' := 107) rfl ?_
  refine J.aload_n 2 d_P_ini_107 rfl rfl ?_
  refine J.getf (c := 45) (v := jr (jGk G 64 FS_51) 53) d_P_ini_108 flc_P_16 ⟨by decide, (Nat.le_of_ble_eq_true rfl), rfl, rfl⟩ rfl ?_
  refine J.iload_n 1 d_P_ini_111 rfl rfl ?_
  refine J.aald3 (c := 53) (n := 58) d_P_ini_112 ⟨by decide, (Nat.le_of_ble_eq_true rfl)⟩ (by unfold vp_in; decide) rfl ?_
  refine J.iload_n 0 d_P_ini_113 rfl rfl ?_
  refine J.aload_n 2 d_P_ini_114 rfl rfl ?_
  refine J.nop (pc' := 115) rfl ?_
  refine J.getf (c := 45) (v := jr (jGk G 64 FS_51) 46) d_P_ini_115 flc_P_11 ⟨by decide, (Nat.le_of_ble_eq_true rfl), rfl, rfl⟩ rfl ?_
  refine J.iload_n 1 d_P_ini_118 rfl rfl ?_
  refine J.aald3 (c := 46) (n := 51) d_P_ini_119 ⟨by decide, (Nat.le_of_ble_eq_true rfl)⟩ (by unfold vp_in; decide) rfl ?_
  refine J.iload_n 0 d_P_ini_120 rfl rfl ?_
  refine J.ialdF (c := 51) (x := (0 : Int32)) d_P_ini_121 ⟨by decide, (Nat.le_of_ble_eq_true rfl)⟩ (by unfold vp_in; decide) rfl ?_
  refine J.iastF (c := 58) (m' := MS_63) d_P_ini_122 ⟨by decide, (Nat.le_of_ble_eq_true rfl)⟩ (by unfold vp_in; decide) rfl ?_
  refine J.nop (pc' := 123) rfl ?_
  refine J.iinc 0 (v := (1 : Int32)) (lv := [(2, .int (5 : Int32)), (1, .int (4 : Int32)), (0, jr (jGk G 64 FS_51) 45)]) d_P_ini_123 rfl (by decide) (by decide) rfl ?_
  refine J.goto 83 d_P_ini_126 rfl ?_
  refine J.iload_n 0 d_P_ini_83 rfl rfl ?_
  refine J.bipush (v := (6 : Int32)) d_P_ini_84 (by decide) ?_
  refine J.icmp_ge 129 d_P_ini_86 rfl (fun c => absurd c (by decide)) (fun _ => ?_)
  refine J.aload_n 2 d_P_ini_89 rfl rfl ?_
  refine J.nop (pc' := 90) rfl ?_
  refine J.getf (c := 45) (v := jr (jGk G 64 FS_51) 46) d_P_ini_90 flc_P_11 ⟨by decide, (Nat.le_of_ble_eq_true rfl), rfl, rfl⟩ rfl ?_
  refine J.iload_n 1 d_P_ini_93 rfl rfl ?_
  refine J.aald3 (c := 46) (n := 51) d_P_ini_94 ⟨by decide, (Nat.le_of_ble_eq_true rfl)⟩ (by unfold vp_in; decide) rfl ?_
  refine J.iload_n 0 d_P_ini_95 rfl rfl ?_
  refine J.iload_n 1 d_P_ini_96 rfl rfl ?_
  refine J.iload_n 0 d_P_ini_97 rfl rfl ?_
  refine J.nop (pc' := 98) rfl ?_
  refine J.icmp_ne 105 d_P_ini_98 rfl (fun _ => ?_) (fun c => absurd c (by decide))
  refine J.iconst (v := (5 : Int32)) d_P_ini_105 (by decide) ?_
  refine J.iastF (c := 51) (m' := MS_64) d_P_ini_106 ⟨by decide, (Nat.le_of_ble_eq_true rfl)⟩ (by unfold vp_in; decide) rfl ?_
  refine J.aload_n 2 d_P_ini_107 rfl rfl ?_
  refine J.getf (c := 45) (v := jr (jGk G 64 FS_51) 53) d_P_ini_108 flc_P_16 ⟨by decide, (Nat.le_of_ble_eq_true rfl), rfl, rfl⟩ rfl ?_
  refine J.iload_n 1 d_P_ini_111 rfl rfl ?_
  refine J.nop (pc' := 112) rfl ?_
  refine J.aald3 (c := 53) (n := 58) d_P_ini_112 ⟨by decide, (Nat.le_of_ble_eq_true rfl)⟩ (by unfold vp_in; decide) rfl ?_
  refine J.iload_n 0 d_P_ini_113 rfl rfl ?_
  refine J.aload_n 2 d_P_ini_114 rfl rfl ?_
  refine J.getf (c := 45) (v := jr (jGk G 64 FS_51) 46) d_P_ini_115 flc_P_11 ⟨by decide, (Nat.le_of_ble_eq_true rfl), rfl, rfl⟩ rfl ?_
  refine J.iload_n 1 d_P_ini_118 rfl rfl ?_
  refine J.aald3 (c := 46) (n := 51) d_P_ini_119 ⟨by decide, (Nat.le_of_ble_eq_true rfl)⟩ (by unfold vp_in; decide) rfl ?_
  refine J.nop (pc' := 120) rfl ?_
  refine J.iload_n 0 d_P_ini_120 rfl rfl ?_
  refine J.ialdF (c := 51) (x := (5 : Int32)) d_P_ini_121 ⟨by decide, (Nat.le_of_ble_eq_true rfl)⟩ (by unfold vp_in; decide) rfl ?_
  refine J.iastF (c := 58) (m' := MS_65) d_P_ini_122 ⟨by decide, (Nat.le_of_ble_eq_true rfl)⟩ (by unfold vp_in; decide) rfl ?_
  refine J.iinc 0 (v := (1 : Int32)) (lv := [(2, .int (6 : Int32)), (1, .int (4 : Int32)), (0, jr (jGk G 64 FS_51) 45)]) d_P_ini_123 rfl (by decide) (by decide) rfl ?_
  refine J.goto 83 d_P_ini_126 rfl ?_
  refine J.iload_n 0 d_P_ini_83 rfl rfl ?_
  refine J.nop (pc' := 84) rfl ?_
  refine J.bipush (v := (6 : Int32)) d_P_ini_84 (by decide) ?_
  refine J.icmp_ge 129 d_P_ini_86 rfl (fun _ => ?_) (fun c => absurd c (by decide))
  refine J.iinc 1 (v := (1 : Int32)) (lv := [(1, .int (5 : Int32)), (2, .int (6 : Int32)), (0, jr (jGk G 64 FS_51) 45)]) d_P_ini_129 rfl (by decide) (by decide) rfl ?_
  refine J.goto 75 d_P_ini_132 rfl ?_
  refine J.iload_n 0 d_P_ini_75 rfl rfl ?_
  refine J.bipush (v := (6 : Int32)) d_P_ini_76 (by decide) ?_
  refine J.nop (pc' := 78) rfl ?_
  refine J.icmp_ge 135 d_P_ini_78 rfl (fun c => absurd c (by decide)) (fun _ => ?_)
  refine J.iconst (v := (0 : Int32)) d_P_ini_81 (by decide) ?_
  refine J.istore_n (lv := [(2, .int (0 : Int32)), (1, .int (5 : Int32)), (0, jr (jGk G 64 FS_51) 45)]) d_P_ini_82 rfl (by decide) rfl ?_
  refine J.iload_n 0 d_P_ini_83 rfl rfl ?_
  refine J.bipush (v := (6 : Int32)) d_P_ini_84 (by decide) ?_
  refine J.icmp_ge 129 d_P_ini_86 rfl (fun c => absurd c (by decide)) (fun _ => ?_)
  refine J.nop (pc' := 89) rfl ?_
  refine J.aload_n 2 d_P_ini_89 rfl rfl ?_
  refine J.getf (c := 45) (v := jr (jGk G 64 FS_51) 46) d_P_ini_90 flc_P_11 ⟨by decide, (Nat.le_of_ble_eq_true rfl), rfl, rfl⟩ rfl ?_
  refine J.iload_n 1 d_P_ini_93 rfl rfl ?_
  refine J.aald3 (c := 46) (n := 52) d_P_ini_94 ⟨by decide, (Nat.le_of_ble_eq_true rfl)⟩ (by unfold vp_in; decide) rfl ?_
  refine J.iload_n 0 d_P_ini_95 rfl rfl ?_
  refine J.iload_n 1 d_P_ini_96 rfl rfl ?_
  refine J.nop (pc' := 97) rfl ?_
  refine J.iload_n 0 d_P_ini_97 rfl rfl ?_
  refine J.icmp_ne 105 d_P_ini_98 rfl (fun _ => ?_) (fun c => absurd c (by decide))
  refine J.iconst (v := (5 : Int32)) d_P_ini_105 (by decide) ?_
  refine J.iastF (c := 52) (m' := MS_66) d_P_ini_106 ⟨by decide, (Nat.le_of_ble_eq_true rfl)⟩ (by unfold vp_in; decide) rfl ?_
  refine J.aload_n 2 d_P_ini_107 rfl rfl ?_
  refine J.getf (c := 45) (v := jr (jGk G 64 FS_51) 53) d_P_ini_108 flc_P_16 ⟨by decide, (Nat.le_of_ble_eq_true rfl), rfl, rfl⟩ rfl ?_
  refine J.nop (pc' := 111) rfl ?_
  refine J.iload_n 1 d_P_ini_111 rfl rfl ?_
  refine J.aald3 (c := 53) (n := 59) d_P_ini_112 ⟨by decide, (Nat.le_of_ble_eq_true rfl)⟩ (by unfold vp_in; decide) rfl ?_
  refine J.iload_n 0 d_P_ini_113 rfl rfl ?_
  refine J.aload_n 2 d_P_ini_114 rfl rfl ?_
  refine J.getf (c := 45) (v := jr (jGk G 64 FS_51) 46) d_P_ini_115 flc_P_11 ⟨by decide, (Nat.le_of_ble_eq_true rfl), rfl, rfl⟩ rfl ?_
  refine J.iload_n 1 d_P_ini_118 rfl rfl ?_
  refine J.nop (pc' := 119) rfl ?_
  refine J.aald3 (c := 46) (n := 52) d_P_ini_119 ⟨by decide, (Nat.le_of_ble_eq_true rfl)⟩ (by unfold vp_in; decide) rfl ?_
  refine J.iload_n 0 d_P_ini_120 rfl rfl ?_
  refine J.ialdF (c := 52) (x := (5 : Int32)) d_P_ini_121 ⟨by decide, (Nat.le_of_ble_eq_true rfl)⟩ (by unfold vp_in; decide) rfl ?_
  refine J.iastF (c := 59) (m' := MS_67) d_P_ini_122 ⟨by decide, (Nat.le_of_ble_eq_true rfl)⟩ (by unfold vp_in; decide) rfl ?_
  refine J.iinc 0 (v := (1 : Int32)) (lv := [(2, .int (1 : Int32)), (1, .int (5 : Int32)), (0, jr (jGk G 64 FS_51) 45)]) d_P_ini_123 rfl (by decide) (by decide) rfl ?_
  refine J.goto 83 d_P_ini_126 rfl ?_
  refine J.nop (pc' := 83) rfl ?_
  refine J.iload_n 0 d_P_ini_83 rfl rfl ?_
  refine J.bipush (v := (6 : Int32)) d_P_ini_84 (by decide) ?_
  refine J.icmp_ge 129 d_P_ini_86 rfl (fun c => absurd c (by decide)) (fun _ => ?_)
  refine J.aload_n 2 d_P_ini_89 rfl rfl ?_
  refine J.getf (c := 45) (v := jr (jGk G 64 FS_51) 46) d_P_ini_90 flc_P_11 ⟨by decide, (Nat.le_of_ble_eq_true rfl), rfl, rfl⟩ rfl ?_
  refine J.iload_n 1 d_P_ini_93 rfl rfl ?_
  refine J.nop (pc' := 94) rfl ?_
  refine J.aald3 (c := 46) (n := 52) d_P_ini_94 ⟨by decide, (Nat.le_of_ble_eq_true rfl)⟩ (by unfold vp_in; decide) rfl ?_
  refine J.iload_n 0 d_P_ini_95 rfl rfl ?_
  refine J.iload_n 1 d_P_ini_96 rfl rfl ?_
  refine J.iload_n 0 d_P_ini_97 rfl rfl ?_
  refine J.icmp_ne 105 d_P_ini_98 rfl (fun _ => ?_) (fun c => absurd c (by decide))
  refine J.iconst (v := (5 : Int32)) d_P_ini_105 (by decide) ?_
  refine J.nop (pc' := 106) rfl ?_
  refine J.iastF (c := 52) (m' := MS_68) d_P_ini_106 ⟨by decide, (Nat.le_of_ble_eq_true rfl)⟩ (by unfold vp_in; decide) rfl ?_
  refine J.aload_n 2 d_P_ini_107 rfl rfl ?_
  refine J.getf (c := 45) (v := jr (jGk G 64 FS_51) 53) d_P_ini_108 flc_P_16 ⟨by decide, (Nat.le_of_ble_eq_true rfl), rfl, rfl⟩ rfl ?_
  refine J.iload_n 1 d_P_ini_111 rfl rfl ?_
  refine J.aald3 (c := 53) (n := 59) d_P_ini_112 ⟨by decide, (Nat.le_of_ble_eq_true rfl)⟩ (by unfold vp_in; decide) rfl ?_
  refine J.iload_n 0 d_P_ini_113 rfl rfl ?_
  refine J.nop (pc' := 114) rfl ?_
  refine J.aload_n 2 d_P_ini_114 rfl rfl ?_
  refine J.getf (c := 45) (v := jr (jGk G 64 FS_51) 46) d_P_ini_115 flc_P_11 ⟨by decide, (Nat.le_of_ble_eq_true rfl), rfl, rfl⟩ rfl ?_
  refine J.iload_n 1 d_P_ini_118 rfl rfl ?_
  refine J.aald3 (c := 46) (n := 52) d_P_ini_119 ⟨by decide, (Nat.le_of_ble_eq_true rfl)⟩ (by unfold vp_in; decide) rfl ?_
  refine J.iload_n 0 d_P_ini_120 rfl rfl ?_
  refine J.ialdF (c := 52) (x := (5 : Int32)) d_P_ini_121 ⟨by decide, (Nat.le_of_ble_eq_true rfl)⟩ (by unfold vp_in; decide) rfl ?_
  refine J.nop (pc' := 122) rfl ?_
  refine J.iastF (c := 59) (m' := MS_69) d_P_ini_122 ⟨by decide, (Nat.le_of_ble_eq_true rfl)⟩ (by unfold vp_in; decide) rfl ?_
  refine J.iinc 0 (v := (1 : Int32)) (lv := [(2, .int (2 : Int32)), (1, .int (5 : Int32)), (0, jr (jGk G 64 FS_51) 45)]) d_P_ini_123 rfl (by decide) (by decide) rfl ?_
  refine J.goto 83 d_P_ini_126 rfl ?_
  refine J.iload_n 0 d_P_ini_83 rfl rfl ?_
  refine J.bipush (v := (6 : Int32)) d_P_ini_84 (by decide) ?_
  refine J.icmp_ge 129 d_P_ini_86 rfl (fun c => absurd c (by decide)) (fun _ => ?_)
  refine J.nop (pc' := 89) rfl ?_
  refine J.aload_n 2 d_P_ini_89 rfl rfl ?_
  refine J.getf (c := 45) (v := jr (jGk G 64 FS_51) 46) d_P_ini_90 flc_P_11 ⟨by decide, (Nat.le_of_ble_eq_true rfl), rfl, rfl⟩ rfl ?_
  refine J.iload_n 1 d_P_ini_93 rfl rfl ?_
  refine J.aald3 (c := 46) (n := 52) d_P_ini_94 ⟨by decide, (Nat.le_of_ble_eq_true rfl)⟩ (by unfold vp_in; decide) rfl ?_
  refine J.iload_n 0 d_P_ini_95 rfl rfl ?_
  refine J.iload_n 1 d_P_ini_96 rfl rfl ?_
  refine J.nop (pc' := 97) rfl ?_
  refine J.iload_n 0 d_P_ini_97 rfl rfl ?_
  refine J.icmp_ne 105 d_P_ini_98 rfl (fun _ => ?_) (fun c => absurd c (by decide))
  refine J.iconst (v := (5 : Int32)) d_P_ini_105 (by decide) ?_
  refine J.iastF (c := 52) (m' := MS_70) d_P_ini_106 ⟨by decide, (Nat.le_of_ble_eq_true rfl)⟩ (by unfold vp_in; decide) rfl ?_
  refine J.aload_n 2 d_P_ini_107 rfl rfl ?_
  refine J.getf (c := 45) (v := jr (jGk G 64 FS_51) 53) d_P_ini_108 flc_P_16 ⟨by decide, (Nat.le_of_ble_eq_true rfl), rfl, rfl⟩ rfl ?_
  refine J.nop (pc' := 111) rfl ?_
  refine J.iload_n 1 d_P_ini_111 rfl rfl ?_
  refine J.aald3 (c := 53) (n := 59) d_P_ini_112 ⟨by decide, (Nat.le_of_ble_eq_true rfl)⟩ (by unfold vp_in; decide) rfl ?_
  refine J.iload_n 0 d_P_ini_113 rfl rfl ?_
  refine J.aload_n 2 d_P_ini_114 rfl rfl ?_
  refine J.getf (c := 45) (v := jr (jGk G 64 FS_51) 46) d_P_ini_115 flc_P_11 ⟨by decide, (Nat.le_of_ble_eq_true rfl), rfl, rfl⟩ rfl ?_
  refine J.iload_n 1 d_P_ini_118 rfl rfl ?_
  refine J.nop (pc' := 119) rfl ?_
  refine J.aald3 (c := 46) (n := 52) d_P_ini_119 ⟨by decide, (Nat.le_of_ble_eq_true rfl)⟩ (by unfold vp_in; decide) rfl ?_
  refine J.iload_n 0 d_P_ini_120 rfl rfl ?_
  refine J.ialdF (c := 52) (x := (5 : Int32)) d_P_ini_121 ⟨by decide, (Nat.le_of_ble_eq_true rfl)⟩ (by unfold vp_in; decide) rfl ?_
  refine J.iastF (c := 59) (m' := MS_71) d_P_ini_122 ⟨by decide, (Nat.le_of_ble_eq_true rfl)⟩ (by unfold vp_in; decide) rfl ?_
  refine J.iinc 0 (v := (1 : Int32)) (lv := [(2, .int (3 : Int32)), (1, .int (5 : Int32)), (0, jr (jGk G 64 FS_51) 45)]) d_P_ini_123 rfl (by decide) (by decide) rfl ?_
  refine J.goto 83 d_P_ini_126 rfl ?_
  refine J.nop (pc' := 83) rfl ?_
  refine J.iload_n 0 d_P_ini_83 rfl rfl ?_
  refine J.bipush (v := (6 : Int32)) d_P_ini_84 (by decide) ?_
  refine J.icmp_ge 129 d_P_ini_86 rfl (fun c => absurd c (by decide)) (fun _ => ?_)
  refine J.aload_n 2 d_P_ini_89 rfl rfl ?_
  refine J.getf (c := 45) (v := jr (jGk G 64 FS_51) 46) d_P_ini_90 flc_P_11 ⟨by decide, (Nat.le_of_ble_eq_true rfl), rfl, rfl⟩ rfl ?_
  refine J.iload_n 1 d_P_ini_93 rfl rfl ?_
  refine J.nop (pc' := 94) rfl ?_
  refine J.aald3 (c := 46) (n := 52) d_P_ini_94 ⟨by decide, (Nat.le_of_ble_eq_true rfl)⟩ (by unfold vp_in; decide) rfl ?_
  refine J.iload_n 0 d_P_ini_95 rfl rfl ?_
  refine J.iload_n 1 d_P_ini_96 rfl rfl ?_
  refine J.iload_n 0 d_P_ini_97 rfl rfl ?_
  refine J.icmp_ne 105 d_P_ini_98 rfl (fun _ => ?_) (fun c => absurd c (by decide))
  refine J.iconst (v := (5 : Int32)) d_P_ini_105 (by decide) ?_
  refine J.nop (pc' := 106) rfl ?_
  refine J.iastF (c := 52) (m' := MS_72) d_P_ini_106 ⟨by decide, (Nat.le_of_ble_eq_true rfl)⟩ (by unfold vp_in; decide) rfl ?_
  refine J.aload_n 2 d_P_ini_107 rfl rfl ?_
  refine J.getf (c := 45) (v := jr (jGk G 64 FS_51) 53) d_P_ini_108 flc_P_16 ⟨by decide, (Nat.le_of_ble_eq_true rfl), rfl, rfl⟩ rfl ?_
  refine J.iload_n 1 d_P_ini_111 rfl rfl ?_
  refine J.aald3 (c := 53) (n := 59) d_P_ini_112 ⟨by decide, (Nat.le_of_ble_eq_true rfl)⟩ (by unfold vp_in; decide) rfl ?_
  refine J.iload_n 0 d_P_ini_113 rfl rfl ?_
  refine J.nop (pc' := 114) rfl ?_
  refine J.aload_n 2 d_P_ini_114 rfl rfl ?_
  refine J.getf (c := 45) (v := jr (jGk G 64 FS_51) 46) d_P_ini_115 flc_P_11 ⟨by decide, (Nat.le_of_ble_eq_true rfl), rfl, rfl⟩ rfl ?_
  refine J.iload_n 1 d_P_ini_118 rfl rfl ?_
  refine J.aald3 (c := 46) (n := 52) d_P_ini_119 ⟨by decide, (Nat.le_of_ble_eq_true rfl)⟩ (by unfold vp_in; decide) rfl ?_
  refine J.iload_n 0 d_P_ini_120 rfl rfl ?_
  refine J.ialdF (c := 52) (x := (5 : Int32)) d_P_ini_121 ⟨by decide, (Nat.le_of_ble_eq_true rfl)⟩ (by unfold vp_in; decide) rfl ?_
  refine J.nop (pc' := 122) rfl ?_
  refine J.iastF (c := 59) (m' := MS_73) d_P_ini_122 ⟨by decide, (Nat.le_of_ble_eq_true rfl)⟩ (by unfold vp_in; decide) rfl ?_
  refine J.iinc 0 (v := (1 : Int32)) (lv := [(2, .int (4 : Int32)), (1, .int (5 : Int32)), (0, jr (jGk G 64 FS_51) 45)]) d_P_ini_123 rfl (by decide) (by decide) rfl ?_
  refine J.goto 83 d_P_ini_126 rfl ?_
  refine J.iload_n 0 d_P_ini_83 rfl rfl ?_
  refine J.bipush (v := (6 : Int32)) d_P_ini_84 (by decide) ?_
  refine J.icmp_ge 129 d_P_ini_86 rfl (fun c => absurd c (by decide)) (fun _ => ?_)
  refine J.nop (pc' := 89) rfl ?_
  refine J.aload_n 2 d_P_ini_89 rfl rfl ?_
  refine J.getf (c := 45) (v := jr (jGk G 64 FS_51) 46) d_P_ini_90 flc_P_11 ⟨by decide, (Nat.le_of_ble_eq_true rfl), rfl, rfl⟩ rfl ?_
  refine J.iload_n 1 d_P_ini_93 rfl rfl ?_
  refine J.aald3 (c := 46) (n := 52) d_P_ini_94 ⟨by decide, (Nat.le_of_ble_eq_true rfl)⟩ (by unfold vp_in; decide) rfl ?_
  refine J.iload_n 0 d_P_ini_95 rfl rfl ?_
  refine J.iload_n 1 d_P_ini_96 rfl rfl ?_
  refine J.nop (pc' := 97) rfl ?_
  refine J.iload_n 0 d_P_ini_97 rfl rfl ?_
  refine J.icmp_ne 105 d_P_ini_98 rfl (fun _ => ?_) (fun c => absurd c (by decide))
  refine J.iconst (v := (5 : Int32)) d_P_ini_105 (by decide) ?_
  refine J.iastF (c := 52) (m' := MS_74) d_P_ini_106 ⟨by decide, (Nat.le_of_ble_eq_true rfl)⟩ (by unfold vp_in; decide) rfl ?_
  refine J.aload_n 2 d_P_ini_107 rfl rfl ?_
  refine J.getf (c := 45) (v := jr (jGk G 64 FS_51) 53) d_P_ini_108 flc_P_16 ⟨by decide, (Nat.le_of_ble_eq_true rfl), rfl, rfl⟩ rfl ?_
  refine J.nop (pc' := 111) rfl ?_
  refine J.iload_n 1 d_P_ini_111 rfl rfl ?_
  refine J.aald3 (c := 53) (n := 59) d_P_ini_112 ⟨by decide, (Nat.le_of_ble_eq_true rfl)⟩ (by unfold vp_in; decide) rfl ?_
  refine J.iload_n 0 d_P_ini_113 rfl rfl ?_
  refine J.aload_n 2 d_P_ini_114 rfl rfl ?_
  refine J.getf (c := 45) (v := jr (jGk G 64 FS_51) 46) d_P_ini_115 flc_P_11 ⟨by decide, (Nat.le_of_ble_eq_true rfl), rfl, rfl⟩ rfl ?_
  refine J.iload_n 1 d_P_ini_118 rfl rfl ?_
  refine J.nop (pc' := 119) rfl ?_
  refine J.aald3 (c := 46) (n := 52) d_P_ini_119 ⟨by decide, (Nat.le_of_ble_eq_true rfl)⟩ (by unfold vp_in; decide) rfl ?_
  refine J.iload_n 0 d_P_ini_120 rfl rfl ?_
  refine J.ialdF (c := 52) (x := (5 : Int32)) d_P_ini_121 ⟨by decide, (Nat.le_of_ble_eq_true rfl)⟩ (by unfold vp_in; decide) rfl ?_
  refine J.iastF (c := 59) (m' := MS_75) d_P_ini_122 ⟨by decide, (Nat.le_of_ble_eq_true rfl)⟩ (by unfold vp_in; decide) rfl ?_
  refine J.iinc 0 (v := (1 : Int32)) (lv := [(2, .int (5 : Int32)), (1, .int (5 : Int32)), (0, jr (jGk G 64 FS_51) 45)]) d_P_ini_123 rfl (by decide) (by decide) rfl ?_
  refine J.goto 83 d_P_ini_126 rfl ?_
  refine J.nop (pc' := 83) rfl ?_
  refine J.iload_n 0 d_P_ini_83 rfl rfl ?_
  refine J.bipush (v := (6 : Int32)) d_P_ini_84 (by decide) ?_
  refine J.icmp_ge 129 d_P_ini_86 rfl (fun c => absurd c (by decide)) (fun _ => ?_)
  refine J.aload_n 2 d_P_ini_89 rfl rfl ?_
  refine J.getf (c := 45) (v := jr (jGk G 64 FS_51) 46) d_P_ini_90 flc_P_11 ⟨by decide, (Nat.le_of_ble_eq_true rfl), rfl, rfl⟩ rfl ?_
  refine J.iload_n 1 d_P_ini_93 rfl rfl ?_
  refine J.nop (pc' := 94) rfl ?_
  refine J.aald3 (c := 46) (n := 52) d_P_ini_94 ⟨by decide, (Nat.le_of_ble_eq_true rfl)⟩ (by unfold vp_in; decide) rfl ?_
  refine J.iload_n 0 d_P_ini_95 rfl rfl ?_
  refine J.iload_n 1 d_P_ini_96 rfl rfl ?_
  refine J.iload_n 0 d_P_ini_97 rfl rfl ?_
  refine J.icmp_ne 105 d_P_ini_98 rfl (fun c => absurd c (by decide)) (fun _ => ?_)
  refine J.iconst (v := (0 : Int32)) d_P_ini_101 (by decide) ?_
  refine J.nop (pc' := 102) rfl ?_
  refine J.goto 106 d_P_ini_102 rfl ?_
  refine J.iastF (c := 52) (m' := MS_76) d_P_ini_106 ⟨by decide, (Nat.le_of_ble_eq_true rfl)⟩ (by unfold vp_in; decide) rfl ?_
  refine J.aload_n 2 d_P_ini_107 rfl rfl ?_
  refine J.getf (c := 45) (v := jr (jGk G 64 FS_51) 53) d_P_ini_108 flc_P_16 ⟨by decide, (Nat.le_of_ble_eq_true rfl), rfl, rfl⟩ rfl ?_
  refine J.iload_n 1 d_P_ini_111 rfl rfl ?_
  refine J.aald3 (c := 53) (n := 59) d_P_ini_112 ⟨by decide, (Nat.le_of_ble_eq_true rfl)⟩ (by unfold vp_in; decide) rfl ?_
  refine J.nop (pc' := 113) rfl ?_
  refine J.iload_n 0 d_P_ini_113 rfl rfl ?_
  refine J.aload_n 2 d_P_ini_114 rfl rfl ?_
  refine J.getf (c := 45) (v := jr (jGk G 64 FS_51) 46) d_P_ini_115 flc_P_11 ⟨by decide, (Nat.le_of_ble_eq_true rfl), rfl, rfl⟩ rfl ?_
  refine J.iload_n 1 d_P_ini_118 rfl rfl ?_
  refine J.aald3 (c := 46) (n := 52) d_P_ini_119 ⟨by decide, (Nat.le_of_ble_eq_true rfl)⟩ (by unfold vp_in; decide) rfl ?_
  refine J.iload_n 0 d_P_ini_120 rfl rfl ?_
  refine J.nop (pc' := 121) rfl ?_
  refine J.ialdF (c := 52) (x := (0 : Int32)) d_P_ini_121 ⟨by decide, (Nat.le_of_ble_eq_true rfl)⟩ (by unfold vp_in; decide) rfl ?_
  refine J.iastF (c := 59) (m' := MS_77) d_P_ini_122 ⟨by decide, (Nat.le_of_ble_eq_true rfl)⟩ (by unfold vp_in; decide) rfl ?_
  refine J.iinc 0 (v := (1 : Int32)) (lv := [(2, .int (6 : Int32)), (1, .int (5 : Int32)), (0, jr (jGk G 64 FS_51) 45)]) d_P_ini_123 rfl (by decide) (by decide) rfl ?_
  refine J.goto 83 d_P_ini_126 rfl ?_
  refine J.iload_n 0 d_P_ini_83 rfl rfl ?_
  refine J.bipush (v := (6 : Int32)) d_P_ini_84 (by decide) ?_
  refine J.nop (pc' := 86) rfl ?_
  refine J.icmp_ge 129 d_P_ini_86 rfl (fun _ => ?_) (fun c => absurd c (by decide))
  refine J.iinc 1 (v := (1 : Int32)) (lv := [(1, .int (6 : Int32)), (2, .int (6 : Int32)), (0, jr (jGk G 64 FS_51) 45)]) d_P_ini_129 rfl (by decide) (by decide) rfl ?_
  refine J.goto 75 d_P_ini_132 rfl ?_
  refine J.iload_n 0 d_P_ini_75 rfl rfl ?_
  refine J.bipush (v := (6 : Int32)) d_P_ini_76 (by decide) ?_
  refine J.icmp_ge 135 d_P_ini_78 rfl (fun _ => ?_) (fun c => absurd c (by decide))
  refine J.nop (pc' := 135) rfl ?_
  exact J.vret d_P_ini_135 rfl rfl
def FS_52 : Nat → Nat → Nat := jfup FS_51 1 8 45
def FS_53 : Nat → Nat → Nat := fun c i => if c = 66 then (if i < 6 then 67 + i else 0) else FS_52 c i
def FS_54 : Nat → Nat → Nat := jfup FS_53 65 0 66
def FS_55 : Nat → Nat → Nat := jfup FS_54 65 1 73
def FS_56 : Nat → Nat → Nat := jfup FS_55 65 2 74
def FS_57 : Nat → Nat → Nat := jfup FS_56 65 3 75
def FS_58 : Nat → Nat → Nat := fun c i => if c = 76 then (if i < 6 then 77 + i else 0) else FS_57 c i
def FS_59 : Nat → Nat → Nat := jfup FS_58 65 4 76
set_option maxRecDepth 20000 in
theorem cc_D_ini_1 {G : jG} (ha : jAO G) : jCC G Y_D_ini [jr G 65] 65 FS_52 MS_77 (82, FS_59, MS_77) := by
  refine jCC.of (ls := [(0, jr G 65)]) mi_D_ini rfl (jAvR jAvN) (Nat.le_of_ble_eq_true rfl) (by decide) ?_
  refine JC.aload_n 0 (n := 65) d_D_ini_0 rfl rfl (by decide) ?_
  refine JC.objInit (n := 65) d_D_ini_1 wOI_D (by decide) (Nat.le_trans jcN (Nat.le_of_ble_eq_true rfl)) ?_
  refine JC.aload_n 0 (n := 65) d_D_ini_4 rfl rfl (by decide) ?_
  refine JC.bipush (v := (6 : Int32)) d_D_ini_5 (by decide) ?_
  refine JC.bipush (v := (30 : Int32)) d_D_ini_7 (by decide) ?_
  refine JC.mnaQ ha (N := 6) (F' := FS_53) d_D_ini_9 ⟨jt_2 66 rfl rfl, jt_1 92 rfl rfl⟩ (by decide) (Nat.le_of_ble_eq_true rfl) ⟨rfl, rfl⟩ (by decide +kernel) (fun i hi q => by rcases i with _|_|_|_|_|_|i <;> first | rfl | omega) (by decide) (by decide) (by decide) (by decide) rfl (Nat.le_of_ble_eq_true rfl) (by decide) ?_
  refine JC.fold (pc' := 13) (k' := 72) (sl' := 186) (F' := FS_53) (M' := MS_77) rfl rfl rfl rfl rfl ?_
  refine JC.putF (ty := (.array (.array .int))) d_D_ini_13 flc_D_11 flp_D_11 rfl ⟨by decide, by decide, rfl, rfl, rfl⟩ jr_narA jr_fitA ?_
  refine JC.fold (pc' := 16) (k' := 72) (sl' := 186) (F' := FS_54) (M' := MS_77) rfl rfl rfl rfl rfl ?_
  refine JC.aload_n 0 (n := 65) d_D_ini_16 rfl rfl (by decide) ?_
  refine JC.bipush (v := (6 : Int32)) d_D_ini_17 (by decide) ?_
  refine JC.newi d_D_ini_19 (jt_1 92 rfl rfl) (Nat.le_of_ble_eq_true rfl) ⟨rfl, by decide⟩ (fun _ => rfl) (by decide) (by decide) (Nat.le_of_ble_eq_true rfl) (by decide) ?_
  refine JC.fold (pc' := 21) (k' := 73) (sl' := 192) (F' := FS_54) (M' := MS_77) rfl rfl rfl rfl rfl ?_
  refine JC.putF (ty := (.array .int)) d_D_ini_21 flc_D_16 flp_D_16 rfl ⟨by decide, by decide, rfl, rfl, rfl⟩ jr_narA jr_fitA ?_
  refine JC.fold (pc' := 24) (k' := 73) (sl' := 192) (F' := FS_55) (M' := MS_77) rfl rfl rfl rfl rfl ?_
  refine JC.aload_n 0 (n := 65) d_D_ini_24 rfl rfl (by decide) ?_
  refine JC.bipush (v := (6 : Int32)) d_D_ini_25 (by decide) ?_
  refine JC.newi d_D_ini_27 (jt_1 92 rfl rfl) (Nat.le_of_ble_eq_true rfl) ⟨rfl, by decide⟩ (fun _ => rfl) (by decide) (by decide) (Nat.le_of_ble_eq_true rfl) (by decide) ?_
  refine JC.fold (pc' := 29) (k' := 74) (sl' := 198) (F' := FS_55) (M' := MS_77) rfl rfl rfl rfl rfl ?_
  refine JC.putF (ty := (.array .int)) d_D_ini_29 flc_D_20 flp_D_20 rfl ⟨by decide, by decide, rfl, rfl, rfl⟩ jr_narA jr_fitA ?_
  refine JC.fold (pc' := 32) (k' := 74) (sl' := 198) (F' := FS_56) (M' := MS_77) rfl rfl rfl rfl rfl ?_
  refine JC.aload_n 0 (n := 65) d_D_ini_32 rfl rfl (by decide) ?_
  refine JC.bipush (v := (6 : Int32)) d_D_ini_33 (by decide) ?_
  refine JC.newi d_D_ini_35 (jt_1 92 rfl rfl) (Nat.le_of_ble_eq_true rfl) ⟨rfl, by decide⟩ (fun _ => rfl) (by decide) (by decide) (Nat.le_of_ble_eq_true rfl) (by decide) ?_
  refine JC.fold (pc' := 37) (k' := 75) (sl' := 204) (F' := FS_56) (M' := MS_77) rfl rfl rfl rfl rfl ?_
  refine JC.putF (ty := (.array .int)) d_D_ini_37 flc_D_23 flp_D_23 rfl ⟨by decide, by decide, rfl, rfl, rfl⟩ jr_narA jr_fitA ?_
  refine JC.fold (pc' := 40) (k' := 75) (sl' := 204) (F' := FS_57) (M' := MS_77) rfl rfl rfl rfl rfl ?_
  refine JC.aload_n 0 (n := 65) d_D_ini_40 rfl rfl (by decide) ?_
  refine JC.bipush (v := (6 : Int32)) d_D_ini_41 (by decide) ?_
  refine JC.bipush (v := (30 : Int32)) d_D_ini_43 (by decide) ?_
  refine JC.mnaQ ha (N := 6) (F' := FS_58) d_D_ini_45 ⟨jt_2 66 rfl rfl, jt_1 92 rfl rfl⟩ (by decide) (Nat.le_of_ble_eq_true rfl) ⟨rfl, rfl⟩ (by decide +kernel) (fun i hi q => by rcases i with _|_|_|_|_|_|i <;> first | rfl | omega) (by decide) (by decide) (by decide) (by decide) rfl (Nat.le_of_ble_eq_true rfl) (by decide) ?_
  refine JC.fold (pc' := 49) (k' := 82) (sl' := 390) (F' := FS_58) (M' := MS_77) rfl rfl rfl rfl rfl ?_
  refine JC.putF (ty := (.array (.array .int))) d_D_ini_49 flc_D_26 flp_D_26 rfl ⟨by decide, by decide, rfl, rfl, rfl⟩ jr_narA jr_fitA ?_
  refine JC.fold (pc' := 52) (k' := 82) (sl' := 390) (F' := FS_59) (M' := MS_77) rfl rfl rfl rfl rfl ?_
  exact JC.vret d_D_ini_52 rfl rfl rfl rfl
def FS_60 : Nat → Nat → Nat := jfup FS_59 1 9 65
def FS_61 : Nat → Nat → Nat := jfup FS_60 83 0 29
def FS_62 : Nat → Nat → Nat := jfup FS_61 83 1 45
set_option maxRecDepth 20000 in
theorem cc_U_ini_1 {G : jG} (ha : jAO G) : jCC G Y_U_ini [jr G 83, jr G 29, jr G 45] 83 FS_60 MS_77 (83, FS_62, MS_77) := by
  refine jCC.of (ls := [(0, jr G 83), (1, jr G 29), (2, jr G 45)]) mi_U_ini rfl (jAvR (jAvR (jAvR jAvN))) (Nat.le_of_ble_eq_true rfl) (by decide) ?_
  refine JC.aload_n 0 (n := 83) d_U_ini_0 rfl rfl (by decide) ?_
  refine JC.objInit (n := 83) d_U_ini_1 wOI_U (by decide) (Nat.le_trans jcN (Nat.le_of_ble_eq_true rfl)) ?_
  refine JC.aload_n 0 (n := 83) d_U_ini_4 rfl rfl (by decide) ?_
  refine JC.aload_n 1 (n := 29) d_U_ini_5 rfl rfl (by decide) ?_
  refine JC.putF (ty := (.object "CitingLetters$Ledger")) d_U_ini_6 flc_U_9 flp_U_9 rfl ⟨by decide, by decide, rfl, rfl, rfl⟩ jr_nar jr_fit ?_
  refine JC.fold (pc' := 9) (k' := 83) (sl' := 0) (F' := FS_61) (M' := MS_77) rfl rfl rfl rfl rfl ?_
  refine JC.aload_n 0 (n := 83) d_U_ini_9 rfl rfl (by decide) ?_
  refine JC.aload_n 2 (n := 45) d_U_ini_10 rfl rfl (by decide) ?_
  refine JC.putF (ty := (.object "CitingLetters$Post")) d_U_ini_11 flc_U_15 flp_U_15 rfl ⟨by decide, by decide, rfl, rfl, rfl⟩ jr_nar jr_fit ?_
  refine JC.fold (pc' := 14) (k' := 83) (sl' := 0) (F' := FS_62) (M' := MS_77) rfl rfl rfl rfl rfl ?_
  exact JC.vret d_U_ini_14 rfl rfl rfl rfl
def FS_63 : Nat → Nat → Nat := jfup FS_62 1 10 83
def FS_64 : Nat → Nat → Nat := jfup FS_63 84 1 85
def FS_65 : Nat → Nat → Nat := jfup FS_64 84 2 86
def FS_66 : Nat → Nat → Nat := jfup FS_65 84 3 87
def FS_67 : Nat → Nat → Nat := jfup FS_66 84 4 88
def FS_68 : Nat → Nat → Nat := jfup FS_67 84 0 29
set_option maxRecDepth 20000 in
theorem cc_N_ini_1 {G : jG} (ha : jAO G) : jCC G Y_N_ini [jr G 84, jr G 29] 84 FS_63 MS_77 (88, FS_68, MS_77) := by
  refine jCC.of (ls := [(0, jr G 84), (1, jr G 29)]) mi_N_ini rfl (jAvR (jAvR jAvN)) (Nat.le_of_ble_eq_true rfl) (by decide) ?_
  refine JC.aload_n 0 (n := 84) d_N_ini_0 rfl rfl (by decide) ?_
  refine JC.objInit (n := 84) d_N_ini_1 wOI_N (by decide) (Nat.le_trans jcN (Nat.le_of_ble_eq_true rfl)) ?_
  refine JC.aload_n 0 (n := 84) d_N_ini_4 rfl rfl (by decide) ?_
  refine JC.bipush (v := (30 : Int32)) d_N_ini_5 (by decide) ?_
  refine JC.newi d_N_ini_7 (jt_1 92 rfl rfl) (Nat.le_of_ble_eq_true rfl) ⟨rfl, by decide⟩ (fun _ => rfl) (by decide) (by decide) (Nat.le_of_ble_eq_true rfl) (by decide) ?_
  refine JC.fold (pc' := 9) (k' := 85) (sl' := 30) (F' := FS_63) (M' := MS_77) rfl rfl rfl rfl rfl ?_
  refine JC.putF (ty := (.array .int)) d_N_ini_9 flc_N_9 flp_N_9 rfl ⟨by decide, by decide, rfl, rfl, rfl⟩ jr_narA jr_fitA ?_
  refine JC.fold (pc' := 12) (k' := 85) (sl' := 30) (F' := FS_64) (M' := MS_77) rfl rfl rfl rfl rfl ?_
  refine JC.aload_n 0 (n := 84) d_N_ini_12 rfl rfl (by decide) ?_
  refine JC.bipush (v := (30 : Int32)) d_N_ini_13 (by decide) ?_
  refine JC.newi d_N_ini_15 (jt_1 92 rfl rfl) (Nat.le_of_ble_eq_true rfl) ⟨rfl, by decide⟩ (fun _ => rfl) (by decide) (by decide) (Nat.le_of_ble_eq_true rfl) (by decide) ?_
  refine JC.fold (pc' := 17) (k' := 86) (sl' := 60) (F' := FS_64) (M' := MS_77) rfl rfl rfl rfl rfl ?_
  refine JC.putF (ty := (.array .int)) d_N_ini_17 flc_N_15 flp_N_15 rfl ⟨by decide, by decide, rfl, rfl, rfl⟩ jr_narA jr_fitA ?_
  refine JC.fold (pc' := 20) (k' := 86) (sl' := 60) (F' := FS_65) (M' := MS_77) rfl rfl rfl rfl rfl ?_
  refine JC.aload_n 0 (n := 84) d_N_ini_20 rfl rfl (by decide) ?_
  refine JC.bipush (v := (30 : Int32)) d_N_ini_21 (by decide) ?_
  refine JC.newi d_N_ini_23 (jt_1 92 rfl rfl) (Nat.le_of_ble_eq_true rfl) ⟨rfl, by decide⟩ (fun _ => rfl) (by decide) (by decide) (Nat.le_of_ble_eq_true rfl) (by decide) ?_
  refine JC.fold (pc' := 25) (k' := 87) (sl' := 90) (F' := FS_65) (M' := MS_77) rfl rfl rfl rfl rfl ?_
  refine JC.putF (ty := (.array .int)) d_N_ini_25 flc_N_18 flp_N_18 rfl ⟨by decide, by decide, rfl, rfl, rfl⟩ jr_narA jr_fitA ?_
  refine JC.fold (pc' := 28) (k' := 87) (sl' := 90) (F' := FS_66) (M' := MS_77) rfl rfl rfl rfl rfl ?_
  refine JC.aload_n 0 (n := 84) d_N_ini_28 rfl rfl (by decide) ?_
  refine JC.bipush (v := (30 : Int32)) d_N_ini_29 (by decide) ?_
  refine JC.newi d_N_ini_31 (jt_1 92 rfl rfl) (Nat.le_of_ble_eq_true rfl) ⟨rfl, by decide⟩ (fun _ => rfl) (by decide) (by decide) (Nat.le_of_ble_eq_true rfl) (by decide) ?_
  refine JC.fold (pc' := 33) (k' := 88) (sl' := 120) (F' := FS_66) (M' := MS_77) rfl rfl rfl rfl rfl ?_
  refine JC.putF (ty := (.array .int)) d_N_ini_33 flc_N_21 flp_N_21 rfl ⟨by decide, by decide, rfl, rfl, rfl⟩ jr_narA jr_fitA ?_
  refine JC.fold (pc' := 36) (k' := 88) (sl' := 120) (F' := FS_67) (M' := MS_77) rfl rfl rfl rfl rfl ?_
  refine JC.aload_n 0 (n := 84) d_N_ini_36 rfl rfl (by decide) ?_
  refine JC.aload_n 1 (n := 29) d_N_ini_37 rfl rfl (by decide) ?_
  refine JC.putF (ty := (.object "CitingLetters$Ledger")) d_N_ini_38 flc_N_24 flp_N_24 rfl ⟨by decide, by decide, rfl, rfl, rfl⟩ jr_nar jr_fit ?_
  refine JC.fold (pc' := 41) (k' := 88) (sl' := 120) (F' := FS_68) (M' := MS_77) rfl rfl rfl rfl rfl ?_
  exact JC.vret d_N_ini_41 rfl rfl rfl rfl
def FS_69 : Nat → Nat → Nat := jfup FS_68 1 11 84
def FS_70 : Nat → Nat → Nat := jfup FS_69 89 1 90
def FS_71 : Nat → Nat → Nat := jfup FS_70 89 2 91
def FS_72 : Nat → Nat → Nat := jfup FS_71 89 4 92
def FS_73 : Nat → Nat → Nat := jfup FS_72 89 5 93
def FS_74 : Nat → Nat → Nat := jfup FS_73 89 7 94
def FS_75 : Nat → Nat → Nat := jfup FS_74 89 8 95
def FS_76 : Nat → Nat → Nat := fun c i => if c = 96 then (if i < 12 then 97 + i else 0) else FS_75 c i
def FS_77 : Nat → Nat → Nat := jfup FS_76 89 9 96
def FS_78 : Nat → Nat → Nat := jfup FS_77 89 0 29
set_option maxRecDepth 20000 in
theorem cc_O_ini_1 {G : jG} (ha : jAO G) : jCC G Y_O_ini [jr G 89, jr G 29] 89 FS_69 MS_77 (108, FS_78, MS_77) := by
  refine jCC.of (ls := [(0, jr G 89), (1, jr G 29)]) mi_O_ini rfl (jAvR (jAvR jAvN)) (Nat.le_of_ble_eq_true rfl) (by decide) ?_
  refine JC.aload_n 0 (n := 89) d_O_ini_0 rfl rfl (by decide) ?_
  refine JC.objInit (n := 89) d_O_ini_1 wOI_O (by decide) (Nat.le_trans jcN (Nat.le_of_ble_eq_true rfl)) ?_
  refine JC.aload_n 0 (n := 89) d_O_ini_4 rfl rfl (by decide) ?_
  refine JC.bipush (v := (12 : Int32)) d_O_ini_5 (by decide) ?_
  refine JC.newi d_O_ini_7 (jt_1 92 rfl rfl) (Nat.le_of_ble_eq_true rfl) ⟨rfl, by decide⟩ (fun _ => rfl) (by decide) (by decide) (Nat.le_of_ble_eq_true rfl) (by decide) ?_
  refine JC.fold (pc' := 9) (k' := 90) (sl' := 12) (F' := FS_69) (M' := MS_77) rfl rfl rfl rfl rfl ?_
  refine JC.putF (ty := (.array .int)) d_O_ini_9 flc_O_9 flp_O_9 rfl ⟨by decide, by decide, rfl, rfl, rfl⟩ jr_narA jr_fitA ?_
  refine JC.fold (pc' := 12) (k' := 90) (sl' := 12) (F' := FS_70) (M' := MS_77) rfl rfl rfl rfl rfl ?_
  refine JC.aload_n 0 (n := 89) d_O_ini_12 rfl rfl (by decide) ?_
  refine JC.bipush (v := (12 : Int32)) d_O_ini_13 (by decide) ?_
  refine JC.newi d_O_ini_15 (jt_1 92 rfl rfl) (Nat.le_of_ble_eq_true rfl) ⟨rfl, by decide⟩ (fun _ => rfl) (by decide) (by decide) (Nat.le_of_ble_eq_true rfl) (by decide) ?_
  refine JC.fold (pc' := 17) (k' := 91) (sl' := 24) (F' := FS_70) (M' := MS_77) rfl rfl rfl rfl rfl ?_
  refine JC.putF (ty := (.array .int)) d_O_ini_17 flc_O_15 flp_O_15 rfl ⟨by decide, by decide, rfl, rfl, rfl⟩ jr_narA jr_fitA ?_
  refine JC.fold (pc' := 20) (k' := 91) (sl' := 24) (F' := FS_71) (M' := MS_77) rfl rfl rfl rfl rfl ?_
  refine JC.aload_n 0 (n := 89) d_O_ini_20 rfl rfl (by decide) ?_
  refine JC.bipush (v := (12 : Int32)) d_O_ini_21 (by decide) ?_
  refine JC.newi d_O_ini_23 (jt_1 92 rfl rfl) (Nat.le_of_ble_eq_true rfl) ⟨rfl, by decide⟩ (fun _ => rfl) (by decide) (by decide) (Nat.le_of_ble_eq_true rfl) (by decide) ?_
  refine JC.fold (pc' := 25) (k' := 92) (sl' := 36) (F' := FS_71) (M' := MS_77) rfl rfl rfl rfl rfl ?_
  refine JC.putF (ty := (.array .int)) d_O_ini_25 flc_O_18 flp_O_18 rfl ⟨by decide, by decide, rfl, rfl, rfl⟩ jr_narA jr_fitA ?_
  refine JC.fold (pc' := 28) (k' := 92) (sl' := 36) (F' := FS_72) (M' := MS_77) rfl rfl rfl rfl rfl ?_
  refine JC.aload_n 0 (n := 89) d_O_ini_28 rfl rfl (by decide) ?_
  refine JC.bipush (v := (12 : Int32)) d_O_ini_29 (by decide) ?_
  refine JC.newi d_O_ini_31 (jt_1 92 rfl rfl) (Nat.le_of_ble_eq_true rfl) ⟨rfl, by decide⟩ (fun _ => rfl) (by decide) (by decide) (Nat.le_of_ble_eq_true rfl) (by decide) ?_
  refine JC.fold (pc' := 33) (k' := 93) (sl' := 48) (F' := FS_72) (M' := MS_77) rfl rfl rfl rfl rfl ?_
  refine JC.putF (ty := (.array .int)) d_O_ini_33 flc_O_21 flp_O_21 rfl ⟨by decide, by decide, rfl, rfl, rfl⟩ jr_narA jr_fitA ?_
  refine JC.fold (pc' := 36) (k' := 93) (sl' := 48) (F' := FS_73) (M' := MS_77) rfl rfl rfl rfl rfl ?_
  refine JC.aload_n 0 (n := 89) d_O_ini_36 rfl rfl (by decide) ?_
  refine JC.sipush (v := (4096 : Int32)) d_O_ini_37 (by decide) ?_
  refine JC.newi d_O_ini_40 (jt_1 92 rfl rfl) (Nat.le_of_ble_eq_true rfl) ⟨rfl, by decide⟩ (fun _ => rfl) (by decide) (by decide) (Nat.le_of_ble_eq_true rfl) (by decide) ?_
  refine JC.fold (pc' := 42) (k' := 94) (sl' := 4144) (F' := FS_73) (M' := MS_77) rfl rfl rfl rfl rfl ?_
  refine JC.putF (ty := (.array .int)) d_O_ini_42 flc_O_24 flp_O_24 rfl ⟨by decide, by decide, rfl, rfl, rfl⟩ jr_narA jr_fitA ?_
  refine JC.fold (pc' := 45) (k' := 94) (sl' := 4144) (F' := FS_74) (M' := MS_77) rfl rfl rfl rfl rfl ?_
  refine JC.aload_n 0 (n := 89) d_O_ini_45 rfl rfl (by decide) ?_
  refine JC.sipush (v := (4096 : Int32)) d_O_ini_46 (by decide) ?_
  refine JC.newi d_O_ini_49 (jt_1 92 rfl rfl) (Nat.le_of_ble_eq_true rfl) ⟨rfl, by decide⟩ (fun _ => rfl) (by decide) (by decide) (Nat.le_of_ble_eq_true rfl) (by decide) ?_
  refine JC.fold (pc' := 51) (k' := 95) (sl' := 8240) (F' := FS_74) (M' := MS_77) rfl rfl rfl rfl rfl ?_
  refine JC.putF (ty := (.array .int)) d_O_ini_51 flc_O_27 flp_O_27 rfl ⟨by decide, by decide, rfl, rfl, rfl⟩ jr_narA jr_fitA ?_
  refine JC.fold (pc' := 54) (k' := 95) (sl' := 8240) (F' := FS_75) (M' := MS_77) rfl rfl rfl rfl rfl ?_
  refine JC.aload_n 0 (n := 89) d_O_ini_54 rfl rfl (by decide) ?_
  refine JC.bipush (v := (12 : Int32)) d_O_ini_55 (by decide) ?_
  refine JC.bipush (v := (12 : Int32)) d_O_ini_57 (by decide) ?_
  refine JC.mnaQ ha (N := 12) (F' := FS_76) d_O_ini_59 ⟨jt_2 128 rfl rfl, jt_1 92 rfl rfl⟩ (by decide) (Nat.le_of_ble_eq_true rfl) ⟨rfl, rfl⟩ (by decide +kernel) (fun i hi q => by rcases i with _|_|_|_|_|_|_|_|_|_|_|_|i <;> first | rfl | omega) (by decide) (by decide) (by decide) (by decide) rfl (Nat.le_of_ble_eq_true rfl) (by decide) ?_
  refine JC.fold (pc' := 63) (k' := 108) (sl' := 8396) (F' := FS_76) (M' := MS_77) rfl rfl rfl rfl rfl ?_
  refine JC.putF (ty := (.array (.array .int))) d_O_ini_63 flc_O_32 flp_O_32 rfl ⟨by decide, by decide, rfl, rfl, rfl⟩ jr_narA jr_fitA ?_
  refine JC.fold (pc' := 66) (k' := 108) (sl' := 8396) (F' := FS_77) (M' := MS_77) rfl rfl rfl rfl rfl ?_
  refine JC.aload_n 0 (n := 89) d_O_ini_66 rfl rfl (by decide) ?_
  refine JC.aload_n 1 (n := 29) d_O_ini_67 rfl rfl (by decide) ?_
  refine JC.putF (ty := (.object "CitingLetters$Ledger")) d_O_ini_68 flc_O_35 flp_O_35 rfl ⟨by decide, by decide, rfl, rfl, rfl⟩ jr_nar jr_fit ?_
  refine JC.fold (pc' := 71) (k' := 108) (sl' := 8396) (F' := FS_78) (M' := MS_77) rfl rfl rfl rfl rfl ?_
  exact JC.vret d_O_ini_71 rfl rfl rfl rfl
def FS_79 : Nat → Nat → Nat := jfup FS_78 1 12 89
set_option maxRecDepth 20000 in
theorem cc_C_ini_1 {G : jG} (ha : jAO G) : jCC G Y_C_ini [jr G 1] 1 FS_0 MS_0 (108, FS_79, MS_77) := by
  refine jCC.of (ls := [(0, jr G 1)]) mi_C_ini rfl (jAvR jAvN) (Nat.le_of_ble_eq_true rfl) (by decide) ?_
  refine JC.aload_n 0 (n := 1) d_C_ini_0 rfl rfl (by decide) ?_
  refine JC.objInit (n := 1) d_C_ini_1 wOI_C (by decide) (Nat.le_trans jcN (Nat.le_of_ble_eq_true rfl)) ?_
  refine JC.aload_n 0 (n := 1) d_C_ini_4 rfl rfl (by decide) ?_
  refine JC.sipush (v := (400 : Int32)) d_C_ini_5 (by decide) ?_
  refine JC.newi d_C_ini_8 (jt_1 92 rfl rfl) (Nat.le_of_ble_eq_true rfl) ⟨rfl, by decide⟩ (fun _ => rfl) (by decide) (by decide) (Nat.le_of_ble_eq_true rfl) (by decide) ?_
  refine JC.fold (pc' := 10) (k' := 2) (sl' := 400) (F' := FS_0) (M' := MS_0) rfl rfl rfl rfl rfl ?_
  refine JC.putF (ty := (.array .int)) d_C_ini_10 flc_C_9 flp_C_9 rfl ⟨by decide, by decide, rfl, rfl, rfl⟩ jr_narA jr_fitA ?_
  refine JC.fold (pc' := 13) (k' := 2) (sl' := 400) (F' := FS_1) (M' := MS_0) rfl rfl rfl rfl rfl ?_
  refine JC.aload_n 0 (n := 1) d_C_ini_13 rfl rfl (by decide) ?_
  refine JC.new (ci := 1) (N := 13) (C := "CitingLetters$Habits") (T := jTH) jtH d_C_ini_14 rfl rfl jtH_ok iw_H wnew_C_13 (Nat.le_of_ble_eq_true rfl) ⟨rfl, rfl⟩ (by decide +kernel) (fun _ => rfl) (fun _ => rfl) (Nat.le_of_ble_eq_true rfl) (Nat.le_of_ble_eq_true rfl) ?_
  refine JC.fold (pc' := 17) (k' := 3) (sl' := 413) (F' := FS_1) (M' := MS_0) rfl rfl rfl rfl rfl ?_
  refine JC.dup d_C_ini_17 (jr_cat _ _) ?_
  refine JC.call Y_H_ini (As := []) (rest := [jr G 3, jr G 1]) (k1 := 11) (F1 := FS_9) (M1 := MS_0) d_C_ini_18 mi_H_ini zi_H_ini lkc_C_15 ⟨(Nat.le_of_ble_eq_true rfl), (Nat.le_of_ble_eq_true rfl), (Nat.le_of_ble_eq_true rfl), rfl, (Nat.le_of_ble_eq_true rfl)⟩ (by decide) (cc_H_ini_1 ha) rfl (Nat.le_trans (jcR (jcR jcN)) (Nat.le_of_ble_eq_true rfl)) ?_
  refine JC.fold (pc' := 21) (k' := 11) (sl' := 643) (F' := FS_9) (M' := MS_0) rfl rfl rfl rfl rfl ?_
  refine JC.putR (ty := (.object "CitingLetters$Habits")) d_C_ini_21 flc_C_16 fpc_0_2 ⟨by decide, by decide, rfl, rfl, rfl⟩ (by decide) jr_nar jr_fit ?_
  refine JC.fold (pc' := 24) (k' := 11) (sl' := 643) (F' := FS_9) (M' := MS_1) rfl rfl rfl rfl rfl ?_
  refine JC.aload_n 0 (n := 1) d_C_ini_24 rfl rfl (by decide) ?_
  refine JC.new (ci := 1) (N := 13) (C := "CitingLetters$Habits") (T := jTH) jtH d_C_ini_25 rfl rfl jtH_ok iw_H wnew_C_13 (Nat.le_of_ble_eq_true rfl) ⟨rfl, rfl⟩ (by decide +kernel) (fun _ => rfl) (fun _ => rfl) (Nat.le_of_ble_eq_true rfl) (Nat.le_of_ble_eq_true rfl) ?_
  refine JC.fold (pc' := 28) (k' := 12) (sl' := 656) (F' := FS_9) (M' := MS_1) rfl rfl rfl rfl rfl ?_
  refine JC.dup d_C_ini_28 (jr_cat _ _) ?_
  refine JC.call Y_H_ini (As := []) (rest := [jr G 12, jr G 1]) (k1 := 20) (F1 := FS_17) (M1 := MS_1) d_C_ini_29 mi_H_ini zi_H_ini lkc_C_15 ⟨(Nat.le_of_ble_eq_true rfl), (Nat.le_of_ble_eq_true rfl), (Nat.le_of_ble_eq_true rfl), rfl, (Nat.le_of_ble_eq_true rfl)⟩ (by decide) (cc_H_ini_2 ha) rfl (Nat.le_trans (jcR (jcR jcN)) (Nat.le_of_ble_eq_true rfl)) ?_
  refine JC.fold (pc' := 32) (k' := 20) (sl' := 886) (F' := FS_17) (M' := MS_1) rfl rfl rfl rfl rfl ?_
  refine JC.putR (ty := (.object "CitingLetters$Habits")) d_C_ini_32 flc_C_20 fpc_0_3 ⟨by decide, by decide, rfl, rfl, rfl⟩ (by decide) jr_nar jr_fit ?_
  refine JC.fold (pc' := 35) (k' := 20) (sl' := 886) (F' := FS_17) (M' := MS_2) rfl rfl rfl rfl rfl ?_
  refine JC.aload_n 0 (n := 1) d_C_ini_35 rfl rfl (by decide) ?_
  refine JC.new (ci := 2) (N := 13) (C := "CitingLetters$TextReader") (T := jTR) jtR d_C_ini_36 rfl rfl jtR_ok iw_R wnew_C_23 (Nat.le_of_ble_eq_true rfl) ⟨rfl, rfl⟩ (by decide +kernel) (fun _ => rfl) (fun _ => rfl) (Nat.le_of_ble_eq_true rfl) (Nat.le_of_ble_eq_true rfl) ?_
  refine JC.fold (pc' := 39) (k' := 21) (sl' := 899) (F' := FS_17) (M' := MS_2) rfl rfl rfl rfl rfl ?_
  refine JC.dup d_C_ini_39 (jr_cat _ _) ?_
  refine JC.aload_n 0 (n := 1) d_C_ini_40 rfl rfl (by decide) ?_
  refine JC.getF (n := 2) d_C_ini_41 flc_C_9 ⟨by decide, by decide, rfl, rfl, rfl⟩ rfl ?_
  refine JC.aload_n 0 (n := 1) d_C_ini_44 rfl rfl (by decide) ?_
  refine JC.getM (n := 12) d_C_ini_45 flc_C_20 ⟨by decide, by decide, rfl, rfl, rfl⟩ rfl ?_
  refine JC.call Y_R_ini (As := [jr G 2, jr G 12]) (rest := [jr G 21, jr G 1]) (k1 := 27) (F1 := FS_24) (M1 := MS_5) d_C_ini_48 mi_R_ini zi_R_ini lkc_C_25 ⟨(Nat.le_of_ble_eq_true rfl), (Nat.le_of_ble_eq_true rfl), (Nat.le_of_ble_eq_true rfl), rfl, (Nat.le_of_ble_eq_true rfl)⟩ (by decide) (cc_R_ini_1 ha) rfl (Nat.le_trans (jcR (jcR jcN)) (Nat.le_of_ble_eq_true rfl)) ?_
  refine JC.fold (pc' := 51) (k' := 27) (sl' := 2189) (F' := FS_24) (M' := MS_5) rfl rfl rfl rfl rfl ?_
  refine JC.putF (ty := (.object "CitingLetters$TextReader")) d_C_ini_51 flc_C_28 flp_C_28 rfl ⟨by decide, by decide, rfl, rfl, rfl⟩ jr_nar jr_fit ?_
  refine JC.fold (pc' := 54) (k' := 27) (sl' := 2189) (F' := FS_25) (M' := MS_5) rfl rfl rfl rfl rfl ?_
  refine JC.aload_n 0 (n := 1) d_C_ini_54 rfl rfl (by decide) ?_
  refine JC.bipush (v := (7 : Int32)) d_C_ini_55 (by decide) ?_
  refine JC.newi d_C_ini_57 (jt_1 92 rfl rfl) (Nat.le_of_ble_eq_true rfl) ⟨rfl, by decide⟩ (fun _ => rfl) (by decide) (by decide) (Nat.le_of_ble_eq_true rfl) (by decide) ?_
  refine JC.fold (pc' := 59) (k' := 28) (sl' := 2196) (F' := FS_25) (M' := MS_5) rfl rfl rfl rfl rfl ?_
  refine JC.putF (ty := (.array .int)) d_C_ini_59 flc_C_32 flp_C_32 rfl ⟨by decide, by decide, rfl, rfl, rfl⟩ jr_narA jr_fitA ?_
  refine JC.fold (pc' := 62) (k' := 28) (sl' := 2196) (F' := FS_26) (M' := MS_5) rfl rfl rfl rfl rfl ?_
  refine JC.aload_n 0 (n := 1) d_C_ini_62 rfl rfl (by decide) ?_
  refine JC.new (ci := 4) (N := 17) (C := "CitingLetters$Ledger") (T := jTL) jtL d_C_ini_63 rfl rfl jtL_ok iw_L wnew_C_35 (Nat.le_of_ble_eq_true rfl) ⟨rfl, rfl⟩ (by decide +kernel) (fun _ => rfl) (fun _ => rfl) (Nat.le_of_ble_eq_true rfl) (Nat.le_of_ble_eq_true rfl) ?_
  refine JC.fold (pc' := 66) (k' := 29) (sl' := 2213) (F' := FS_26) (M' := MS_5) rfl rfl rfl rfl rfl ?_
  refine JC.dup d_C_ini_66 (jr_cat _ _) ?_
  refine JC.call Y_L_ini (As := []) (rest := [jr G 29, jr G 1]) (k1 := 44) (F1 := FS_41) (M1 := MS_5) d_C_ini_67 mi_L_ini zi_L_ini lkc_C_37 ⟨(Nat.le_of_ble_eq_true rfl), (Nat.le_of_ble_eq_true rfl), (Nat.le_of_ble_eq_true rfl), rfl, (Nat.le_of_ble_eq_true rfl)⟩ (by decide) (cc_L_ini_1 ha) rfl (Nat.le_trans (jcR (jcR jcN)) (Nat.le_of_ble_eq_true rfl)) ?_
  refine JC.fold (pc' := 70) (k' := 44) (sl' := 2615) (F' := FS_41) (M' := MS_5) rfl rfl rfl rfl rfl ?_
  refine JC.putF (ty := (.object "CitingLetters$Ledger")) d_C_ini_70 flc_C_38 flp_C_38 rfl ⟨by decide, by decide, rfl, rfl, rfl⟩ jr_nar jr_fit ?_
  refine JC.fold (pc' := 73) (k' := 44) (sl' := 2615) (F' := FS_42) (M' := MS_5) rfl rfl rfl rfl rfl ?_
  refine JC.aload_n 0 (n := 1) d_C_ini_73 rfl rfl (by decide) ?_
  refine JC.new (ci := 5) (N := 11) (C := "CitingLetters$Post") (T := jTP) jtP d_C_ini_74 rfl rfl jtP_ok iw_P wnew_C_42 (Nat.le_of_ble_eq_true rfl) ⟨rfl, rfl⟩ (by decide +kernel) (fun _ => rfl) (fun _ => rfl) (Nat.le_of_ble_eq_true rfl) (Nat.le_of_ble_eq_true rfl) ?_
  refine JC.fold (pc' := 77) (k' := 45) (sl' := 2626) (F' := FS_42) (M' := MS_5) rfl rfl rfl rfl rfl ?_
  refine JC.dup d_C_ini_77 (jr_cat _ _) ?_
  refine JC.call Y_P_ini (As := []) (rest := [jr G 45, jr G 1]) (k1 := 64) (F1 := FS_51) (M1 := MS_77) d_C_ini_78 mi_P_ini zi_P_ini lkc_C_44 ⟨(Nat.le_of_ble_eq_true rfl), (Nat.le_of_ble_eq_true rfl), (Nat.le_of_ble_eq_true rfl), rfl, (Nat.le_of_ble_eq_true rfl)⟩ (by decide) (cc_P_ini_1 ha) rfl (Nat.le_trans (jcR (jcR jcN)) (Nat.le_of_ble_eq_true rfl)) ?_
  refine JC.fold (pc' := 81) (k' := 64) (sl' := 3460) (F' := FS_51) (M' := MS_77) rfl rfl rfl rfl rfl ?_
  refine JC.putF (ty := (.object "CitingLetters$Post")) d_C_ini_81 flc_C_45 flp_C_45 rfl ⟨by decide, by decide, rfl, rfl, rfl⟩ jr_nar jr_fit ?_
  refine JC.fold (pc' := 84) (k' := 64) (sl' := 3460) (F' := FS_52) (M' := MS_77) rfl rfl rfl rfl rfl ?_
  refine JC.aload_n 0 (n := 1) d_C_ini_84 rfl rfl (by decide) ?_
  refine JC.new (ci := 6) (N := 5) (C := "CitingLetters$Desks") (T := jTD) jtD d_C_ini_85 rfl rfl jtD_ok iw_D wnew_C_49 (Nat.le_of_ble_eq_true rfl) ⟨rfl, rfl⟩ (by decide +kernel) (fun _ => rfl) (fun _ => rfl) (Nat.le_of_ble_eq_true rfl) (Nat.le_of_ble_eq_true rfl) ?_
  refine JC.fold (pc' := 88) (k' := 65) (sl' := 3465) (F' := FS_52) (M' := MS_77) rfl rfl rfl rfl rfl ?_
  refine JC.dup d_C_ini_88 (jr_cat _ _) ?_
  refine JC.call Y_D_ini (As := []) (rest := [jr G 65, jr G 1]) (k1 := 82) (F1 := FS_59) (M1 := MS_77) d_C_ini_89 mi_D_ini zi_D_ini lkc_C_51 ⟨(Nat.le_of_ble_eq_true rfl), (Nat.le_of_ble_eq_true rfl), (Nat.le_of_ble_eq_true rfl), rfl, (Nat.le_of_ble_eq_true rfl)⟩ (by decide) (cc_D_ini_1 ha) rfl (Nat.le_trans (jcR (jcR jcN)) (Nat.le_of_ble_eq_true rfl)) ?_
  refine JC.fold (pc' := 92) (k' := 82) (sl' := 3855) (F' := FS_59) (M' := MS_77) rfl rfl rfl rfl rfl ?_
  refine JC.putF (ty := (.object "CitingLetters$Desks")) d_C_ini_92 flc_C_52 flp_C_52 rfl ⟨by decide, by decide, rfl, rfl, rfl⟩ jr_nar jr_fit ?_
  refine JC.fold (pc' := 95) (k' := 82) (sl' := 3855) (F' := FS_60) (M' := MS_77) rfl rfl rfl rfl rfl ?_
  refine JC.aload_n 0 (n := 1) d_C_ini_95 rfl rfl (by decide) ?_
  refine JC.new (ci := 7) (N := 2) (C := "CitingLetters$Doubts") (T := jTU) jtU d_C_ini_96 rfl rfl jtU_ok iw_U wnew_C_56 (Nat.le_of_ble_eq_true rfl) ⟨rfl, rfl⟩ (by decide +kernel) (fun _ => rfl) (fun _ => rfl) (Nat.le_of_ble_eq_true rfl) (Nat.le_of_ble_eq_true rfl) ?_
  refine JC.fold (pc' := 99) (k' := 83) (sl' := 3857) (F' := FS_60) (M' := MS_77) rfl rfl rfl rfl rfl ?_
  refine JC.dup d_C_ini_99 (jr_cat _ _) ?_
  refine JC.aload_n 0 (n := 1) d_C_ini_100 rfl rfl (by decide) ?_
  refine JC.getF (n := 29) d_C_ini_101 flc_C_38 ⟨by decide, by decide, rfl, rfl, rfl⟩ rfl ?_
  refine JC.aload_n 0 (n := 1) d_C_ini_104 rfl rfl (by decide) ?_
  refine JC.getF (n := 45) d_C_ini_105 flc_C_45 ⟨by decide, by decide, rfl, rfl, rfl⟩ rfl ?_
  refine JC.call Y_U_ini (As := [jr G 29, jr G 45]) (rest := [jr G 83, jr G 1]) (k1 := 83) (F1 := FS_62) (M1 := MS_77) d_C_ini_108 mi_U_ini zi_U_ini lkc_C_58 ⟨(Nat.le_of_ble_eq_true rfl), (Nat.le_of_ble_eq_true rfl), (Nat.le_of_ble_eq_true rfl), rfl, (Nat.le_of_ble_eq_true rfl)⟩ (by decide) (cc_U_ini_1 ha) rfl (Nat.le_trans (jcR (jcR jcN)) (Nat.le_of_ble_eq_true rfl)) ?_
  refine JC.fold (pc' := 111) (k' := 83) (sl' := 3857) (F' := FS_62) (M' := MS_77) rfl rfl rfl rfl rfl ?_
  refine JC.putF (ty := (.object "CitingLetters$Doubts")) d_C_ini_111 flc_C_61 flp_C_61 rfl ⟨by decide, by decide, rfl, rfl, rfl⟩ jr_nar jr_fit ?_
  refine JC.fold (pc' := 114) (k' := 83) (sl' := 3857) (F' := FS_63) (M' := MS_77) rfl rfl rfl rfl rfl ?_
  refine JC.aload_n 0 (n := 1) d_C_ini_114 rfl rfl (by decide) ?_
  refine JC.new (ci := 8) (N := 5) (C := "CitingLetters$Chains") (T := jTN) jtN d_C_ini_115 rfl rfl jtN_ok iw_N wnew_C_65 (Nat.le_of_ble_eq_true rfl) ⟨rfl, rfl⟩ (by decide +kernel) (fun _ => rfl) (fun _ => rfl) (Nat.le_of_ble_eq_true rfl) (Nat.le_of_ble_eq_true rfl) ?_
  refine JC.fold (pc' := 118) (k' := 84) (sl' := 3862) (F' := FS_63) (M' := MS_77) rfl rfl rfl rfl rfl ?_
  refine JC.dup d_C_ini_118 (jr_cat _ _) ?_
  refine JC.aload_n 0 (n := 1) d_C_ini_119 rfl rfl (by decide) ?_
  refine JC.getF (n := 29) d_C_ini_120 flc_C_38 ⟨by decide, by decide, rfl, rfl, rfl⟩ rfl ?_
  refine JC.call Y_N_ini (As := [jr G 29]) (rest := [jr G 84, jr G 1]) (k1 := 88) (F1 := FS_68) (M1 := MS_77) d_C_ini_123 mi_N_ini zi_N_ini lkc_C_67 ⟨(Nat.le_of_ble_eq_true rfl), (Nat.le_of_ble_eq_true rfl), (Nat.le_of_ble_eq_true rfl), rfl, (Nat.le_of_ble_eq_true rfl)⟩ (by decide) (cc_N_ini_1 ha) rfl (Nat.le_trans (jcR (jcR jcN)) (Nat.le_of_ble_eq_true rfl)) ?_
  refine JC.fold (pc' := 126) (k' := 88) (sl' := 3982) (F' := FS_68) (M' := MS_77) rfl rfl rfl rfl rfl ?_
  refine JC.putF (ty := (.object "CitingLetters$Chains")) d_C_ini_126 flc_C_70 flp_C_70 rfl ⟨by decide, by decide, rfl, rfl, rfl⟩ jr_nar jr_fit ?_
  refine JC.fold (pc' := 129) (k' := 88) (sl' := 3982) (F' := FS_69) (M' := MS_77) rfl rfl rfl rfl rfl ?_
  refine JC.aload_n 0 (n := 1) d_C_ini_129 rfl rfl (by decide) ?_
  refine JC.new (ci := 9) (N := 10) (C := "CitingLetters$Orders") (T := jTO) jtO d_C_ini_130 rfl rfl jtO_ok iw_O wnew_C_74 (Nat.le_of_ble_eq_true rfl) ⟨rfl, rfl⟩ (by decide +kernel) (fun _ => rfl) (fun _ => rfl) (Nat.le_of_ble_eq_true rfl) (Nat.le_of_ble_eq_true rfl) ?_
  refine JC.fold (pc' := 133) (k' := 89) (sl' := 3992) (F' := FS_69) (M' := MS_77) rfl rfl rfl rfl rfl ?_
  refine JC.dup d_C_ini_133 (jr_cat _ _) ?_
  refine JC.aload_n 0 (n := 1) d_C_ini_134 rfl rfl (by decide) ?_
  refine JC.getF (n := 29) d_C_ini_135 flc_C_38 ⟨by decide, by decide, rfl, rfl, rfl⟩ rfl ?_
  refine JC.call Y_O_ini (As := [jr G 29]) (rest := [jr G 89, jr G 1]) (k1 := 108) (F1 := FS_78) (M1 := MS_77) d_C_ini_138 mi_O_ini zi_O_ini lkc_C_76 ⟨(Nat.le_of_ble_eq_true rfl), (Nat.le_of_ble_eq_true rfl), (Nat.le_of_ble_eq_true rfl), rfl, (Nat.le_of_ble_eq_true rfl)⟩ (by decide) (cc_O_ini_1 ha) rfl (Nat.le_trans (jcR (jcR jcN)) (Nat.le_of_ble_eq_true rfl)) ?_
  refine JC.fold (pc' := 141) (k' := 108) (sl' := 12388) (F' := FS_78) (M' := MS_77) rfl rfl rfl rfl rfl ?_
  refine JC.putF (ty := (.object "CitingLetters$Orders")) d_C_ini_141 flc_C_77 flp_C_77 rfl ⟨by decide, by decide, rfl, rfl, rfl⟩ jr_nar jr_fit ?_
  refine JC.fold (pc' := 144) (k' := 108) (sl' := 12388) (F' := FS_79) (M' := MS_77) rfl rfl rfl rfl rfl ?_
  exact JC.vret d_C_ini_144 rfl rfl rfl rfl
def FS_80 : Nat → Nat → Nat := jfup FS_79 109 1 110
def FS_81 : Nat → Nat → Nat := jfup FS_80 109 3 111
def FS_82 : Nat → Nat → Nat := jfup FS_81 109 4 112
def FS_83 : Nat → Nat → Nat := jfup FS_82 109 8 113
def FS_84 : Nat → Nat → Nat := jfup FS_83 109 9 114
def FS_85 : Nat → Nat → Nat := jfup FS_84 109 10 115
def FS_86 : Nat → Nat → Nat := jfup FS_85 109 13 116
def MS_78 : jMem := jup MS_77 109 24 (-1 : Int32)
def FS_87 : Nat → Nat → Nat := jfup FS_86 109 25 117
def FS_88 : Nat → Nat → Nat := jfup FS_87 109 28 118
def FS_89 : Nat → Nat → Nat := jfup FS_88 109 29 119
def FS_90 : Nat → Nat → Nat := jfup FS_89 109 32 120
def FS_91 : Nat → Nat → Nat := jfup FS_90 109 34 121
def FS_92 : Nat → Nat → Nat := jfup FS_91 109 35 122
def FS_93 : Nat → Nat → Nat := jfup FS_92 109 36 123
def FS_94 : Nat → Nat → Nat := jfup FS_93 109 37 124
def FS_95 : Nat → Nat → Nat := jfup FS_94 109 38 125
def FS_96 : Nat → Nat → Nat := jfup FS_95 109 39 126
def FS_97 : Nat → Nat → Nat := jfup FS_96 109 40 127
def FS_98 : Nat → Nat → Nat := jfup FS_97 109 41 128
def FS_99 : Nat → Nat → Nat := jfup FS_98 109 42 129
def FS_100 : Nat → Nat → Nat := jfup FS_99 109 45 130
def FS_101 : Nat → Nat → Nat := jfup FS_100 109 46 131
def FS_102 : Nat → Nat → Nat := jfup FS_101 109 47 132
def FS_103 : Nat → Nat → Nat := jfup FS_102 109 48 133
def FS_104 : Nat → Nat → Nat := jfup FS_103 109 49 134
def FS_105 : Nat → Nat → Nat := jfup FS_104 109 53 135
def FS_106 : Nat → Nat → Nat := jfup FS_105 109 54 136
def FS_107 : Nat → Nat → Nat := jfup FS_106 109 55 137
def FS_108 : Nat → Nat → Nat := jfup FS_107 109 56 138
def FS_109 : Nat → Nat → Nat := jfup FS_108 109 58 139
def FS_110 : Nat → Nat → Nat := jfup FS_109 109 59 140
def FS_111 : Nat → Nat → Nat := jfup FS_110 109 60 141
def FS_112 : Nat → Nat → Nat := jfup FS_111 109 61 142
def FS_113 : Nat → Nat → Nat := jfup FS_112 109 63 143
def FS_114 : Nat → Nat → Nat := jfup FS_113 109 65 144
def FS_115 : Nat → Nat → Nat := jfup FS_114 109 66 145
def FS_116 : Nat → Nat → Nat := jfup FS_115 109 68 146
def FS_117 : Nat → Nat → Nat := jfup FS_116 109 69 147
def FS_118 : Nat → Nat → Nat := jfup FS_117 109 70 148
def MS_79 : jMem := jup MS_78 120 0 (0 : Int32)
def MS_80 : jMem := jup MS_79 120 1 (5 : Int32)
def MS_81 : jMem := jup MS_80 120 2 (5 : Int32)
def MS_82 : jMem := jup MS_81 120 3 (5 : Int32)
def MS_83 : jMem := jup MS_82 120 4 (5 : Int32)
def MS_84 : jMem := jup MS_83 120 5 (5 : Int32)
def MS_85 : jMem := jup MS_84 120 6 (5 : Int32)
def MS_86 : jMem := jup MS_85 120 7 (0 : Int32)
def MS_87 : jMem := jup MS_86 120 8 (5 : Int32)
def MS_88 : jMem := jup MS_87 120 9 (5 : Int32)
def MS_89 : jMem := jup MS_88 120 10 (5 : Int32)
def MS_90 : jMem := jup MS_89 120 11 (5 : Int32)
def MS_91 : jMem := jup MS_90 120 12 (5 : Int32)
def MS_92 : jMem := jup MS_91 120 13 (5 : Int32)
def MS_93 : jMem := jup MS_92 120 14 (0 : Int32)
def MS_94 : jMem := jup MS_93 120 15 (5 : Int32)
def MS_95 : jMem := jup MS_94 120 16 (5 : Int32)
def MS_96 : jMem := jup MS_95 120 17 (5 : Int32)
def MS_97 : jMem := jup MS_96 120 18 (5 : Int32)
def MS_98 : jMem := jup MS_97 120 19 (5 : Int32)
def MS_99 : jMem := jup MS_98 120 20 (5 : Int32)
def MS_100 : jMem := jup MS_99 120 21 (0 : Int32)
def MS_101 : jMem := jup MS_100 120 22 (5 : Int32)
def MS_102 : jMem := jup MS_101 120 23 (5 : Int32)
def MS_103 : jMem := jup MS_102 120 24 (5 : Int32)
def MS_104 : jMem := jup MS_103 120 25 (5 : Int32)
def MS_105 : jMem := jup MS_104 120 26 (5 : Int32)
def MS_106 : jMem := jup MS_105 120 27 (5 : Int32)
def MS_107 : jMem := jup MS_106 120 28 (0 : Int32)
def MS_108 : jMem := jup MS_107 120 29 (5 : Int32)
def MS_109 : jMem := jup MS_108 120 30 (5 : Int32)
def MS_110 : jMem := jup MS_109 120 31 (5 : Int32)
def MS_111 : jMem := jup MS_110 120 32 (5 : Int32)
def MS_112 : jMem := jup MS_111 120 33 (5 : Int32)
def MS_113 : jMem := jup MS_112 120 34 (5 : Int32)
def MS_114 : jMem := jup MS_113 120 35 (0 : Int32)
def MS_115 : jMem := jup MS_114 116 0 (1 : Int32)
def MS_116 : jMem := jup MS_115 116 1 (1 : Int32)
def MS_117 : jMem := jup MS_116 116 2 (1 : Int32)
def MS_118 : jMem := jup MS_117 116 3 (1 : Int32)
def MS_119 : jMem := jup MS_118 116 4 (1 : Int32)
def MS_120 : jMem := jup MS_119 116 5 (1 : Int32)
set_option maxRecDepth 20000 in
theorem cc_M_ini_1 {G : jG} (ha : jAO G) : jCC G Y_M_ini [jr G 109] 109 FS_79 MS_77 (148, FS_118, MS_120) := by
  refine jCC.of (ls := [(0, jr G 109)]) mi_M_ini rfl (jAvR jAvN) (Nat.le_of_ble_eq_true rfl) (by decide) ?_
  refine JC.aload_n 0 (n := 109) d_M_ini_0 rfl rfl (by decide) ?_
  refine JC.objInit (n := 109) d_M_ini_1 wOI_M (by decide) (Nat.le_trans jcN (Nat.le_of_ble_eq_true rfl)) ?_
  refine JC.aload_n 0 (n := 109) d_M_ini_4 rfl rfl (by decide) ?_
  refine JC.sipush (v := (400 : Int32)) d_M_ini_5 (by decide) ?_
  refine JC.newi d_M_ini_8 (jt_1 92 rfl rfl) (Nat.le_of_ble_eq_true rfl) ⟨rfl, by decide⟩ (fun _ => rfl) (by decide) (by decide) (Nat.le_of_ble_eq_true rfl) (by decide) ?_
  refine JC.fold (pc' := 10) (k' := 110) (sl' := 400) (F' := FS_79) (M' := MS_77) rfl rfl rfl rfl rfl ?_
  refine JC.putF (ty := (.array .int)) d_M_ini_10 flc_M_7 flp_M_7 rfl ⟨by decide, by decide, rfl, rfl, rfl⟩ jr_narA jr_fitA ?_
  refine JC.fold (pc' := 13) (k' := 110) (sl' := 400) (F' := FS_80) (M' := MS_77) rfl rfl rfl rfl rfl ?_
  refine JC.aload_n 0 (n := 109) d_M_ini_13 rfl rfl (by decide) ?_
  refine JC.sipush (v := (128 : Int32)) d_M_ini_14 (by decide) ?_
  refine JC.newi d_M_ini_17 (jt_1 92 rfl rfl) (Nat.le_of_ble_eq_true rfl) ⟨rfl, by decide⟩ (fun _ => rfl) (by decide) (by decide) (Nat.le_of_ble_eq_true rfl) (by decide) ?_
  refine JC.fold (pc' := 19) (k' := 111) (sl' := 528) (F' := FS_80) (M' := MS_77) rfl rfl rfl rfl rfl ?_
  refine JC.putF (ty := (.array .int)) d_M_ini_19 flc_M_13 flp_M_13 rfl ⟨by decide, by decide, rfl, rfl, rfl⟩ jr_narA jr_fitA ?_
  refine JC.fold (pc' := 22) (k' := 111) (sl' := 528) (F' := FS_81) (M' := MS_77) rfl rfl rfl rfl rfl ?_
  refine JC.aload_n 0 (n := 109) d_M_ini_22 rfl rfl (by decide) ?_
  refine JC.sipush (v := (128 : Int32)) d_M_ini_23 (by decide) ?_
  refine JC.newi d_M_ini_26 (jt_1 92 rfl rfl) (Nat.le_of_ble_eq_true rfl) ⟨rfl, by decide⟩ (fun _ => rfl) (by decide) (by decide) (Nat.le_of_ble_eq_true rfl) (by decide) ?_
  refine JC.fold (pc' := 28) (k' := 112) (sl' := 656) (F' := FS_81) (M' := MS_77) rfl rfl rfl rfl rfl ?_
  refine JC.putF (ty := (.array .int)) d_M_ini_28 flc_M_16 flp_M_16 rfl ⟨by decide, by decide, rfl, rfl, rfl⟩ jr_narA jr_fitA ?_
  refine JC.fold (pc' := 31) (k' := 112) (sl' := 656) (F' := FS_82) (M' := MS_77) rfl rfl rfl rfl rfl ?_
  refine JC.aload_n 0 (n := 109) d_M_ini_31 rfl rfl (by decide) ?_
  refine JC.bipush (v := (18 : Int32)) d_M_ini_32 (by decide) ?_
  refine JC.newz d_M_ini_34 (jt_1 93 rfl rfl) (Nat.le_of_ble_eq_true rfl) ⟨rfl, by decide⟩ (fun _ => rfl) (by decide) (by decide) (Nat.le_of_ble_eq_true rfl) (by decide) ?_
  refine JC.fold (pc' := 36) (k' := 113) (sl' := 674) (F' := FS_82) (M' := MS_77) rfl rfl rfl rfl rfl ?_
  refine JC.putF (ty := (.array .boolean)) d_M_ini_36 flc_M_19 flp_M_19 rfl ⟨by decide, by decide, rfl, rfl, rfl⟩ jr_narA jr_fitA ?_
  refine JC.fold (pc' := 39) (k' := 113) (sl' := 674) (F' := FS_83) (M' := MS_77) rfl rfl rfl rfl rfl ?_
  refine JC.aload_n 0 (n := 109) d_M_ini_39 rfl rfl (by decide) ?_
  refine JC.bipush (v := (18 : Int32)) d_M_ini_40 (by decide) ?_
  refine JC.newi d_M_ini_42 (jt_1 92 rfl rfl) (Nat.le_of_ble_eq_true rfl) ⟨rfl, by decide⟩ (fun _ => rfl) (by decide) (by decide) (Nat.le_of_ble_eq_true rfl) (by decide) ?_
  refine JC.fold (pc' := 44) (k' := 114) (sl' := 692) (F' := FS_83) (M' := MS_77) rfl rfl rfl rfl rfl ?_
  refine JC.putF (ty := (.array .int)) d_M_ini_44 flc_M_23 flp_M_23 rfl ⟨by decide, by decide, rfl, rfl, rfl⟩ jr_narA jr_fitA ?_
  refine JC.fold (pc' := 47) (k' := 114) (sl' := 692) (F' := FS_84) (M' := MS_77) rfl rfl rfl rfl rfl ?_
  refine JC.aload_n 0 (n := 109) d_M_ini_47 rfl rfl (by decide) ?_
  refine JC.bipush (v := (18 : Int32)) d_M_ini_48 (by decide) ?_
  refine JC.newi d_M_ini_50 (jt_1 92 rfl rfl) (Nat.le_of_ble_eq_true rfl) ⟨rfl, by decide⟩ (fun _ => rfl) (by decide) (by decide) (Nat.le_of_ble_eq_true rfl) (by decide) ?_
  refine JC.fold (pc' := 52) (k' := 115) (sl' := 710) (F' := FS_84) (M' := MS_77) rfl rfl rfl rfl rfl ?_
  refine JC.putF (ty := (.array .int)) d_M_ini_52 flc_M_26 flp_M_26 rfl ⟨by decide, by decide, rfl, rfl, rfl⟩ jr_narA jr_fitA ?_
  refine JC.fold (pc' := 55) (k' := 115) (sl' := 710) (F' := FS_85) (M' := MS_77) rfl rfl rfl rfl rfl ?_
  refine JC.aload_n 0 (n := 109) d_M_ini_55 rfl rfl (by decide) ?_
  refine JC.bipush (v := (12 : Int32)) d_M_ini_56 (by decide) ?_
  refine JC.newi d_M_ini_58 (jt_1 92 rfl rfl) (Nat.le_of_ble_eq_true rfl) ⟨rfl, by decide⟩ (fun _ => rfl) (by decide) (by decide) (Nat.le_of_ble_eq_true rfl) (by decide) ?_
  refine JC.fold (pc' := 60) (k' := 116) (sl' := 722) (F' := FS_85) (M' := MS_77) rfl rfl rfl rfl rfl ?_
  refine JC.putF (ty := (.array .int)) d_M_ini_60 flc_M_29 flp_M_29 rfl ⟨by decide, by decide, rfl, rfl, rfl⟩ jr_narA jr_fitA ?_
  refine JC.fold (pc' := 63) (k' := 116) (sl' := 722) (F' := FS_86) (M' := MS_77) rfl rfl rfl rfl rfl ?_
  refine JC.aload_n 0 (n := 109) d_M_ini_63 rfl rfl (by decide) ?_
  refine JC.iconst (v := (-1 : Int32)) d_M_ini_64 (by decide) ?_
  refine JC.putI (ty := .int) d_M_ini_65 flc_M_32 fpc_10_24 ⟨by decide, by decide, rfl, rfl, rfl⟩ rfl rfl ?_
  refine JC.fold (pc' := 68) (k' := 116) (sl' := 722) (F' := FS_86) (M' := MS_78) rfl rfl rfl rfl rfl ?_
  refine JC.aload_n 0 (n := 109) d_M_ini_68 rfl rfl (by decide) ?_
  refine JC.bipush (v := (96 : Int32)) d_M_ini_69 (by decide) ?_
  refine JC.newi d_M_ini_71 (jt_1 92 rfl rfl) (Nat.le_of_ble_eq_true rfl) ⟨rfl, by decide⟩ (fun _ => rfl) (by decide) (by decide) (Nat.le_of_ble_eq_true rfl) (by decide) ?_
  refine JC.fold (pc' := 73) (k' := 117) (sl' := 818) (F' := FS_86) (M' := MS_78) rfl rfl rfl rfl rfl ?_
  refine JC.putF (ty := (.array .int)) d_M_ini_73 flc_M_36 flp_M_36 rfl ⟨by decide, by decide, rfl, rfl, rfl⟩ jr_narA jr_fitA ?_
  refine JC.fold (pc' := 76) (k' := 117) (sl' := 818) (F' := FS_87) (M' := MS_78) rfl rfl rfl rfl rfl ?_
  refine JC.aload_n 0 (n := 109) d_M_ini_76 rfl rfl (by decide) ?_
  refine JC.bipush (v := (7 : Int32)) d_M_ini_77 (by decide) ?_
  refine JC.newi d_M_ini_79 (jt_1 92 rfl rfl) (Nat.le_of_ble_eq_true rfl) ⟨rfl, by decide⟩ (fun _ => rfl) (by decide) (by decide) (Nat.le_of_ble_eq_true rfl) (by decide) ?_
  refine JC.fold (pc' := 81) (k' := 118) (sl' := 825) (F' := FS_87) (M' := MS_78) rfl rfl rfl rfl rfl ?_
  refine JC.putF (ty := (.array .int)) d_M_ini_81 flc_M_39 flp_M_39 rfl ⟨by decide, by decide, rfl, rfl, rfl⟩ jr_narA jr_fitA ?_
  refine JC.fold (pc' := 84) (k' := 118) (sl' := 825) (F' := FS_88) (M' := MS_78) rfl rfl rfl rfl rfl ?_
  refine JC.aload_n 0 (n := 109) d_M_ini_84 rfl rfl (by decide) ?_
  refine JC.bipush (v := (72 : Int32)) d_M_ini_85 (by decide) ?_
  refine JC.newi d_M_ini_87 (jt_1 92 rfl rfl) (Nat.le_of_ble_eq_true rfl) ⟨rfl, by decide⟩ (fun _ => rfl) (by decide) (by decide) (Nat.le_of_ble_eq_true rfl) (by decide) ?_
  refine JC.fold (pc' := 89) (k' := 119) (sl' := 897) (F' := FS_88) (M' := MS_78) rfl rfl rfl rfl rfl ?_
  refine JC.putF (ty := (.array .int)) d_M_ini_89 flc_M_42 flp_M_42 rfl ⟨by decide, by decide, rfl, rfl, rfl⟩ jr_narA jr_fitA ?_
  refine JC.fold (pc' := 92) (k' := 119) (sl' := 897) (F' := FS_89) (M' := MS_78) rfl rfl rfl rfl rfl ?_
  refine JC.aload_n 0 (n := 109) d_M_ini_92 rfl rfl (by decide) ?_
  refine JC.bipush (v := (36 : Int32)) d_M_ini_93 (by decide) ?_
  refine JC.newi d_M_ini_95 (jt_1 92 rfl rfl) (Nat.le_of_ble_eq_true rfl) ⟨rfl, by decide⟩ (fun _ => rfl) (by decide) (by decide) (Nat.le_of_ble_eq_true rfl) (by decide) ?_
  refine JC.fold (pc' := 97) (k' := 120) (sl' := 933) (F' := FS_89) (M' := MS_78) rfl rfl rfl rfl rfl ?_
  refine JC.putF (ty := (.array .int)) d_M_ini_97 flc_M_45 flp_M_45 rfl ⟨by decide, by decide, rfl, rfl, rfl⟩ jr_narA jr_fitA ?_
  refine JC.fold (pc' := 100) (k' := 120) (sl' := 933) (F' := FS_90) (M' := MS_78) rfl rfl rfl rfl rfl ?_
  refine JC.aload_n 0 (n := 109) d_M_ini_100 rfl rfl (by decide) ?_
  refine JC.bipush (v := (30 : Int32)) d_M_ini_101 (by decide) ?_
  refine JC.newi d_M_ini_103 (jt_1 92 rfl rfl) (Nat.le_of_ble_eq_true rfl) ⟨rfl, by decide⟩ (fun _ => rfl) (by decide) (by decide) (Nat.le_of_ble_eq_true rfl) (by decide) ?_
  refine JC.fold (pc' := 105) (k' := 121) (sl' := 963) (F' := FS_90) (M' := MS_78) rfl rfl rfl rfl rfl ?_
  refine JC.putF (ty := (.array .int)) d_M_ini_105 flc_M_48 flp_M_48 rfl ⟨by decide, by decide, rfl, rfl, rfl⟩ jr_narA jr_fitA ?_
  refine JC.fold (pc' := 108) (k' := 121) (sl' := 963) (F' := FS_91) (M' := MS_78) rfl rfl rfl rfl rfl ?_
  refine JC.aload_n 0 (n := 109) d_M_ini_108 rfl rfl (by decide) ?_
  refine JC.bipush (v := (30 : Int32)) d_M_ini_109 (by decide) ?_
  refine JC.newi d_M_ini_111 (jt_1 92 rfl rfl) (Nat.le_of_ble_eq_true rfl) ⟨rfl, by decide⟩ (fun _ => rfl) (by decide) (by decide) (Nat.le_of_ble_eq_true rfl) (by decide) ?_
  refine JC.fold (pc' := 113) (k' := 122) (sl' := 993) (F' := FS_91) (M' := MS_78) rfl rfl rfl rfl rfl ?_
  refine JC.putF (ty := (.array .int)) d_M_ini_113 flc_M_51 flp_M_51 rfl ⟨by decide, by decide, rfl, rfl, rfl⟩ jr_narA jr_fitA ?_
  refine JC.fold (pc' := 116) (k' := 122) (sl' := 993) (F' := FS_92) (M' := MS_78) rfl rfl rfl rfl rfl ?_
  refine JC.aload_n 0 (n := 109) d_M_ini_116 rfl rfl (by decide) ?_
  refine JC.bipush (v := (30 : Int32)) d_M_ini_117 (by decide) ?_
  refine JC.newi d_M_ini_119 (jt_1 92 rfl rfl) (Nat.le_of_ble_eq_true rfl) ⟨rfl, by decide⟩ (fun _ => rfl) (by decide) (by decide) (Nat.le_of_ble_eq_true rfl) (by decide) ?_
  refine JC.fold (pc' := 121) (k' := 123) (sl' := 1023) (F' := FS_92) (M' := MS_78) rfl rfl rfl rfl rfl ?_
  refine JC.putF (ty := (.array .int)) d_M_ini_121 flc_M_54 flp_M_54 rfl ⟨by decide, by decide, rfl, rfl, rfl⟩ jr_narA jr_fitA ?_
  refine JC.fold (pc' := 124) (k' := 123) (sl' := 1023) (F' := FS_93) (M' := MS_78) rfl rfl rfl rfl rfl ?_
  refine JC.aload_n 0 (n := 109) d_M_ini_124 rfl rfl (by decide) ?_
  refine JC.bipush (v := (30 : Int32)) d_M_ini_125 (by decide) ?_
  refine JC.newi d_M_ini_127 (jt_1 92 rfl rfl) (Nat.le_of_ble_eq_true rfl) ⟨rfl, by decide⟩ (fun _ => rfl) (by decide) (by decide) (Nat.le_of_ble_eq_true rfl) (by decide) ?_
  refine JC.fold (pc' := 129) (k' := 124) (sl' := 1053) (F' := FS_93) (M' := MS_78) rfl rfl rfl rfl rfl ?_
  refine JC.putF (ty := (.array .int)) d_M_ini_129 flc_M_57 flp_M_57 rfl ⟨by decide, by decide, rfl, rfl, rfl⟩ jr_narA jr_fitA ?_
  refine JC.fold (pc' := 132) (k' := 124) (sl' := 1053) (F' := FS_94) (M' := MS_78) rfl rfl rfl rfl rfl ?_
  refine JC.aload_n 0 (n := 109) d_M_ini_132 rfl rfl (by decide) ?_
  refine JC.bipush (v := (30 : Int32)) d_M_ini_133 (by decide) ?_
  refine JC.newi d_M_ini_135 (jt_1 92 rfl rfl) (Nat.le_of_ble_eq_true rfl) ⟨rfl, by decide⟩ (fun _ => rfl) (by decide) (by decide) (Nat.le_of_ble_eq_true rfl) (by decide) ?_
  refine JC.fold (pc' := 137) (k' := 125) (sl' := 1083) (F' := FS_94) (M' := MS_78) rfl rfl rfl rfl rfl ?_
  refine JC.putF (ty := (.array .int)) d_M_ini_137 flc_M_60 flp_M_60 rfl ⟨by decide, by decide, rfl, rfl, rfl⟩ jr_narA jr_fitA ?_
  refine JC.fold (pc' := 140) (k' := 125) (sl' := 1083) (F' := FS_95) (M' := MS_78) rfl rfl rfl rfl rfl ?_
  refine JC.aload_n 0 (n := 109) d_M_ini_140 rfl rfl (by decide) ?_
  refine JC.bipush (v := (30 : Int32)) d_M_ini_141 (by decide) ?_
  refine JC.newi d_M_ini_143 (jt_1 92 rfl rfl) (Nat.le_of_ble_eq_true rfl) ⟨rfl, by decide⟩ (fun _ => rfl) (by decide) (by decide) (Nat.le_of_ble_eq_true rfl) (by decide) ?_
  refine JC.fold (pc' := 145) (k' := 126) (sl' := 1113) (F' := FS_95) (M' := MS_78) rfl rfl rfl rfl rfl ?_
  refine JC.putF (ty := (.array .int)) d_M_ini_145 flc_M_63 flp_M_63 rfl ⟨by decide, by decide, rfl, rfl, rfl⟩ jr_narA jr_fitA ?_
  refine JC.fold (pc' := 148) (k' := 126) (sl' := 1113) (F' := FS_96) (M' := MS_78) rfl rfl rfl rfl rfl ?_
  refine JC.aload_n 0 (n := 109) d_M_ini_148 rfl rfl (by decide) ?_
  refine JC.bipush (v := (30 : Int32)) d_M_ini_149 (by decide) ?_
  refine JC.newi d_M_ini_151 (jt_1 92 rfl rfl) (Nat.le_of_ble_eq_true rfl) ⟨rfl, by decide⟩ (fun _ => rfl) (by decide) (by decide) (Nat.le_of_ble_eq_true rfl) (by decide) ?_
  refine JC.fold (pc' := 153) (k' := 127) (sl' := 1143) (F' := FS_96) (M' := MS_78) rfl rfl rfl rfl rfl ?_
  refine JC.putF (ty := (.array .int)) d_M_ini_153 flc_M_66 flp_M_66 rfl ⟨by decide, by decide, rfl, rfl, rfl⟩ jr_narA jr_fitA ?_
  refine JC.fold (pc' := 156) (k' := 127) (sl' := 1143) (F' := FS_97) (M' := MS_78) rfl rfl rfl rfl rfl ?_
  refine JC.aload_n 0 (n := 109) d_M_ini_156 rfl rfl (by decide) ?_
  refine JC.bipush (v := (30 : Int32)) d_M_ini_157 (by decide) ?_
  refine JC.newi d_M_ini_159 (jt_1 92 rfl rfl) (Nat.le_of_ble_eq_true rfl) ⟨rfl, by decide⟩ (fun _ => rfl) (by decide) (by decide) (Nat.le_of_ble_eq_true rfl) (by decide) ?_
  refine JC.fold (pc' := 161) (k' := 128) (sl' := 1173) (F' := FS_97) (M' := MS_78) rfl rfl rfl rfl rfl ?_
  refine JC.putF (ty := (.array .int)) d_M_ini_161 flc_M_69 flp_M_69 rfl ⟨by decide, by decide, rfl, rfl, rfl⟩ jr_narA jr_fitA ?_
  refine JC.fold (pc' := 164) (k' := 128) (sl' := 1173) (F' := FS_98) (M' := MS_78) rfl rfl rfl rfl rfl ?_
  refine JC.aload_n 0 (n := 109) d_M_ini_164 rfl rfl (by decide) ?_
  refine JC.bipush (v := (30 : Int32)) d_M_ini_165 (by decide) ?_
  refine JC.newz d_M_ini_167 (jt_1 93 rfl rfl) (Nat.le_of_ble_eq_true rfl) ⟨rfl, by decide⟩ (fun _ => rfl) (by decide) (by decide) (Nat.le_of_ble_eq_true rfl) (by decide) ?_
  refine JC.fold (pc' := 169) (k' := 129) (sl' := 1203) (F' := FS_98) (M' := MS_78) rfl rfl rfl rfl rfl ?_
  refine JC.putF (ty := (.array .boolean)) d_M_ini_169 flc_M_72 flp_M_72 rfl ⟨by decide, by decide, rfl, rfl, rfl⟩ jr_narA jr_fitA ?_
  refine JC.fold (pc' := 172) (k' := 129) (sl' := 1203) (F' := FS_99) (M' := MS_78) rfl rfl rfl rfl rfl ?_
  refine JC.aload_n 0 (n := 109) d_M_ini_172 rfl rfl (by decide) ?_
  refine JC.sipush (v := (150 : Int32)) d_M_ini_173 (by decide) ?_
  refine JC.newi d_M_ini_176 (jt_1 92 rfl rfl) (Nat.le_of_ble_eq_true rfl) ⟨rfl, by decide⟩ (fun _ => rfl) (by decide) (by decide) (Nat.le_of_ble_eq_true rfl) (by decide) ?_
  refine JC.fold (pc' := 178) (k' := 130) (sl' := 1353) (F' := FS_99) (M' := MS_78) rfl rfl rfl rfl rfl ?_
  refine JC.putF (ty := (.array .int)) d_M_ini_178 flc_M_75 flp_M_75 rfl ⟨by decide, by decide, rfl, rfl, rfl⟩ jr_narA jr_fitA ?_
  refine JC.fold (pc' := 181) (k' := 130) (sl' := 1353) (F' := FS_100) (M' := MS_78) rfl rfl rfl rfl rfl ?_
  refine JC.aload_n 0 (n := 109) d_M_ini_181 rfl rfl (by decide) ?_
  refine JC.sipush (v := (150 : Int32)) d_M_ini_182 (by decide) ?_
  refine JC.newi d_M_ini_185 (jt_1 92 rfl rfl) (Nat.le_of_ble_eq_true rfl) ⟨rfl, by decide⟩ (fun _ => rfl) (by decide) (by decide) (Nat.le_of_ble_eq_true rfl) (by decide) ?_
  refine JC.fold (pc' := 187) (k' := 131) (sl' := 1503) (F' := FS_100) (M' := MS_78) rfl rfl rfl rfl rfl ?_
  refine JC.putF (ty := (.array .int)) d_M_ini_187 flc_M_78 flp_M_78 rfl ⟨by decide, by decide, rfl, rfl, rfl⟩ jr_narA jr_fitA ?_
  refine JC.fold (pc' := 190) (k' := 131) (sl' := 1503) (F' := FS_101) (M' := MS_78) rfl rfl rfl rfl rfl ?_
  refine JC.aload_n 0 (n := 109) d_M_ini_190 rfl rfl (by decide) ?_
  refine JC.sipush (v := (150 : Int32)) d_M_ini_191 (by decide) ?_
  refine JC.newi d_M_ini_194 (jt_1 92 rfl rfl) (Nat.le_of_ble_eq_true rfl) ⟨rfl, by decide⟩ (fun _ => rfl) (by decide) (by decide) (Nat.le_of_ble_eq_true rfl) (by decide) ?_
  refine JC.fold (pc' := 196) (k' := 132) (sl' := 1653) (F' := FS_101) (M' := MS_78) rfl rfl rfl rfl rfl ?_
  refine JC.putF (ty := (.array .int)) d_M_ini_196 flc_M_81 flp_M_81 rfl ⟨by decide, by decide, rfl, rfl, rfl⟩ jr_narA jr_fitA ?_
  refine JC.fold (pc' := 199) (k' := 132) (sl' := 1653) (F' := FS_102) (M' := MS_78) rfl rfl rfl rfl rfl ?_
  refine JC.aload_n 0 (n := 109) d_M_ini_199 rfl rfl (by decide) ?_
  refine JC.sipush (v := (150 : Int32)) d_M_ini_200 (by decide) ?_
  refine JC.newi d_M_ini_203 (jt_1 92 rfl rfl) (Nat.le_of_ble_eq_true rfl) ⟨rfl, by decide⟩ (fun _ => rfl) (by decide) (by decide) (Nat.le_of_ble_eq_true rfl) (by decide) ?_
  refine JC.fold (pc' := 205) (k' := 133) (sl' := 1803) (F' := FS_102) (M' := MS_78) rfl rfl rfl rfl rfl ?_
  refine JC.putF (ty := (.array .int)) d_M_ini_205 flc_M_84 flp_M_84 rfl ⟨by decide, by decide, rfl, rfl, rfl⟩ jr_narA jr_fitA ?_
  refine JC.fold (pc' := 208) (k' := 133) (sl' := 1803) (F' := FS_103) (M' := MS_78) rfl rfl rfl rfl rfl ?_
  refine JC.aload_n 0 (n := 109) d_M_ini_208 rfl rfl (by decide) ?_
  refine JC.sipush (v := (150 : Int32)) d_M_ini_209 (by decide) ?_
  refine JC.newi d_M_ini_212 (jt_1 92 rfl rfl) (Nat.le_of_ble_eq_true rfl) ⟨rfl, by decide⟩ (fun _ => rfl) (by decide) (by decide) (Nat.le_of_ble_eq_true rfl) (by decide) ?_
  refine JC.fold (pc' := 214) (k' := 134) (sl' := 1953) (F' := FS_103) (M' := MS_78) rfl rfl rfl rfl rfl ?_
  refine JC.putF (ty := (.array .int)) d_M_ini_214 flc_M_87 flp_M_87 rfl ⟨by decide, by decide, rfl, rfl, rfl⟩ jr_narA jr_fitA ?_
  refine JC.fold (pc' := 217) (k' := 134) (sl' := 1953) (F' := FS_104) (M' := MS_78) rfl rfl rfl rfl rfl ?_
  refine JC.aload_n 0 (n := 109) d_M_ini_217 rfl rfl (by decide) ?_
  refine JC.bipush (v := (6 : Int32)) d_M_ini_218 (by decide) ?_
  refine JC.newi d_M_ini_220 (jt_1 92 rfl rfl) (Nat.le_of_ble_eq_true rfl) ⟨rfl, by decide⟩ (fun _ => rfl) (by decide) (by decide) (Nat.le_of_ble_eq_true rfl) (by decide) ?_
  refine JC.fold (pc' := 222) (k' := 135) (sl' := 1959) (F' := FS_104) (M' := MS_78) rfl rfl rfl rfl rfl ?_
  refine JC.putF (ty := (.array .int)) d_M_ini_222 flc_M_90 flp_M_90 rfl ⟨by decide, by decide, rfl, rfl, rfl⟩ jr_narA jr_fitA ?_
  refine JC.fold (pc' := 225) (k' := 135) (sl' := 1959) (F' := FS_105) (M' := MS_78) rfl rfl rfl rfl rfl ?_
  refine JC.aload_n 0 (n := 109) d_M_ini_225 rfl rfl (by decide) ?_
  refine JC.sipush (v := (180 : Int32)) d_M_ini_226 (by decide) ?_
  refine JC.newi d_M_ini_229 (jt_1 92 rfl rfl) (Nat.le_of_ble_eq_true rfl) ⟨rfl, by decide⟩ (fun _ => rfl) (by decide) (by decide) (Nat.le_of_ble_eq_true rfl) (by decide) ?_
  refine JC.fold (pc' := 231) (k' := 136) (sl' := 2139) (F' := FS_105) (M' := MS_78) rfl rfl rfl rfl rfl ?_
  refine JC.putF (ty := (.array .int)) d_M_ini_231 flc_M_93 flp_M_93 rfl ⟨by decide, by decide, rfl, rfl, rfl⟩ jr_narA jr_fitA ?_
  refine JC.fold (pc' := 234) (k' := 136) (sl' := 2139) (F' := FS_106) (M' := MS_78) rfl rfl rfl rfl rfl ?_
  refine JC.aload_n 0 (n := 109) d_M_ini_234 rfl rfl (by decide) ?_
  refine JC.sipush (v := (180 : Int32)) d_M_ini_235 (by decide) ?_
  refine JC.newi d_M_ini_238 (jt_1 92 rfl rfl) (Nat.le_of_ble_eq_true rfl) ⟨rfl, by decide⟩ (fun _ => rfl) (by decide) (by decide) (Nat.le_of_ble_eq_true rfl) (by decide) ?_
  refine JC.fold (pc' := 240) (k' := 137) (sl' := 2319) (F' := FS_106) (M' := MS_78) rfl rfl rfl rfl rfl ?_
  refine JC.putF (ty := (.array .int)) d_M_ini_240 flc_M_96 flp_M_96 rfl ⟨by decide, by decide, rfl, rfl, rfl⟩ jr_narA jr_fitA ?_
  refine JC.fold (pc' := 243) (k' := 137) (sl' := 2319) (F' := FS_107) (M' := MS_78) rfl rfl rfl rfl rfl ?_
  refine JC.aload_n 0 (n := 109) d_M_ini_243 rfl rfl (by decide) ?_
  refine JC.bipush (v := (6 : Int32)) d_M_ini_244 (by decide) ?_
  refine JC.newi d_M_ini_246 (jt_1 92 rfl rfl) (Nat.le_of_ble_eq_true rfl) ⟨rfl, by decide⟩ (fun _ => rfl) (by decide) (by decide) (Nat.le_of_ble_eq_true rfl) (by decide) ?_
  refine JC.fold (pc' := 248) (k' := 138) (sl' := 2325) (F' := FS_107) (M' := MS_78) rfl rfl rfl rfl rfl ?_
  refine JC.putF (ty := (.array .int)) d_M_ini_248 flc_M_99 flp_M_99 rfl ⟨by decide, by decide, rfl, rfl, rfl⟩ jr_narA jr_fitA ?_
  refine JC.fold (pc' := 251) (k' := 138) (sl' := 2325) (F' := FS_108) (M' := MS_78) rfl rfl rfl rfl rfl ?_
  refine JC.aload_n 0 (n := 109) d_M_ini_251 rfl rfl (by decide) ?_
  refine JC.bipush (v := (30 : Int32)) d_M_ini_252 (by decide) ?_
  refine JC.newi d_M_ini_254 (jt_1 92 rfl rfl) (Nat.le_of_ble_eq_true rfl) ⟨rfl, by decide⟩ (fun _ => rfl) (by decide) (by decide) (Nat.le_of_ble_eq_true rfl) (by decide) ?_
  refine JC.fold (pc' := 256) (k' := 139) (sl' := 2355) (F' := FS_108) (M' := MS_78) rfl rfl rfl rfl rfl ?_
  refine JC.putF (ty := (.array .int)) d_M_ini_256 flc_M_102 flp_M_102 rfl ⟨by decide, by decide, rfl, rfl, rfl⟩ jr_narA jr_fitA ?_
  refine JC.fold (pc' := 259) (k' := 139) (sl' := 2355) (F' := FS_109) (M' := MS_78) rfl rfl rfl rfl rfl ?_
  refine JC.aload_n 0 (n := 109) d_M_ini_259 rfl rfl (by decide) ?_
  refine JC.bipush (v := (30 : Int32)) d_M_ini_260 (by decide) ?_
  refine JC.newi d_M_ini_262 (jt_1 92 rfl rfl) (Nat.le_of_ble_eq_true rfl) ⟨rfl, by decide⟩ (fun _ => rfl) (by decide) (by decide) (Nat.le_of_ble_eq_true rfl) (by decide) ?_
  refine JC.fold (pc' := 264) (k' := 140) (sl' := 2385) (F' := FS_109) (M' := MS_78) rfl rfl rfl rfl rfl ?_
  refine JC.putF (ty := (.array .int)) d_M_ini_264 flc_M_105 flp_M_105 rfl ⟨by decide, by decide, rfl, rfl, rfl⟩ jr_narA jr_fitA ?_
  refine JC.fold (pc' := 267) (k' := 140) (sl' := 2385) (F' := FS_110) (M' := MS_78) rfl rfl rfl rfl rfl ?_
  refine JC.aload_n 0 (n := 109) d_M_ini_267 rfl rfl (by decide) ?_
  refine JC.bipush (v := (30 : Int32)) d_M_ini_268 (by decide) ?_
  refine JC.newi d_M_ini_270 (jt_1 92 rfl rfl) (Nat.le_of_ble_eq_true rfl) ⟨rfl, by decide⟩ (fun _ => rfl) (by decide) (by decide) (Nat.le_of_ble_eq_true rfl) (by decide) ?_
  refine JC.fold (pc' := 272) (k' := 141) (sl' := 2415) (F' := FS_110) (M' := MS_78) rfl rfl rfl rfl rfl ?_
  refine JC.putF (ty := (.array .int)) d_M_ini_272 flc_M_108 flp_M_108 rfl ⟨by decide, by decide, rfl, rfl, rfl⟩ jr_narA jr_fitA ?_
  refine JC.fold (pc' := 275) (k' := 141) (sl' := 2415) (F' := FS_111) (M' := MS_78) rfl rfl rfl rfl rfl ?_
  refine JC.aload_n 0 (n := 109) d_M_ini_275 rfl rfl (by decide) ?_
  refine JC.bipush (v := (30 : Int32)) d_M_ini_276 (by decide) ?_
  refine JC.newi d_M_ini_278 (jt_1 92 rfl rfl) (Nat.le_of_ble_eq_true rfl) ⟨rfl, by decide⟩ (fun _ => rfl) (by decide) (by decide) (Nat.le_of_ble_eq_true rfl) (by decide) ?_
  refine JC.fold (pc' := 280) (k' := 142) (sl' := 2445) (F' := FS_111) (M' := MS_78) rfl rfl rfl rfl rfl ?_
  refine JC.putF (ty := (.array .int)) d_M_ini_280 flc_M_111 flp_M_111 rfl ⟨by decide, by decide, rfl, rfl, rfl⟩ jr_narA jr_fitA ?_
  refine JC.fold (pc' := 283) (k' := 142) (sl' := 2445) (F' := FS_112) (M' := MS_78) rfl rfl rfl rfl rfl ?_
  refine JC.aload_n 0 (n := 109) d_M_ini_283 rfl rfl (by decide) ?_
  refine JC.bipush (v := (36 : Int32)) d_M_ini_284 (by decide) ?_
  refine JC.newi d_M_ini_286 (jt_1 92 rfl rfl) (Nat.le_of_ble_eq_true rfl) ⟨rfl, by decide⟩ (fun _ => rfl) (by decide) (by decide) (Nat.le_of_ble_eq_true rfl) (by decide) ?_
  refine JC.fold (pc' := 288) (k' := 143) (sl' := 2481) (F' := FS_112) (M' := MS_78) rfl rfl rfl rfl rfl ?_
  refine JC.putF (ty := (.array .int)) d_M_ini_288 flc_M_114 flp_M_114 rfl ⟨by decide, by decide, rfl, rfl, rfl⟩ jr_narA jr_fitA ?_
  refine JC.fold (pc' := 291) (k' := 143) (sl' := 2481) (F' := FS_113) (M' := MS_78) rfl rfl rfl rfl rfl ?_
  refine JC.aload_n 0 (n := 109) d_M_ini_291 rfl rfl (by decide) ?_
  refine JC.bipush (v := (12 : Int32)) d_M_ini_292 (by decide) ?_
  refine JC.newi d_M_ini_294 (jt_1 92 rfl rfl) (Nat.le_of_ble_eq_true rfl) ⟨rfl, by decide⟩ (fun _ => rfl) (by decide) (by decide) (Nat.le_of_ble_eq_true rfl) (by decide) ?_
  refine JC.fold (pc' := 296) (k' := 144) (sl' := 2493) (F' := FS_113) (M' := MS_78) rfl rfl rfl rfl rfl ?_
  refine JC.putF (ty := (.array .int)) d_M_ini_296 flc_M_117 flp_M_117 rfl ⟨by decide, by decide, rfl, rfl, rfl⟩ jr_narA jr_fitA ?_
  refine JC.fold (pc' := 299) (k' := 144) (sl' := 2493) (F' := FS_114) (M' := MS_78) rfl rfl rfl rfl rfl ?_
  refine JC.aload_n 0 (n := 109) d_M_ini_299 rfl rfl (by decide) ?_
  refine JC.bipush (v := (12 : Int32)) d_M_ini_300 (by decide) ?_
  refine JC.newi d_M_ini_302 (jt_1 92 rfl rfl) (Nat.le_of_ble_eq_true rfl) ⟨rfl, by decide⟩ (fun _ => rfl) (by decide) (by decide) (Nat.le_of_ble_eq_true rfl) (by decide) ?_
  refine JC.fold (pc' := 304) (k' := 145) (sl' := 2505) (F' := FS_114) (M' := MS_78) rfl rfl rfl rfl rfl ?_
  refine JC.putF (ty := (.array .int)) d_M_ini_304 flc_M_120 flp_M_120 rfl ⟨by decide, by decide, rfl, rfl, rfl⟩ jr_narA jr_fitA ?_
  refine JC.fold (pc' := 307) (k' := 145) (sl' := 2505) (F' := FS_115) (M' := MS_78) rfl rfl rfl rfl rfl ?_
  refine JC.aload_n 0 (n := 109) d_M_ini_307 rfl rfl (by decide) ?_
  refine JC.bipush (v := (12 : Int32)) d_M_ini_308 (by decide) ?_
  refine JC.newi d_M_ini_310 (jt_1 92 rfl rfl) (Nat.le_of_ble_eq_true rfl) ⟨rfl, by decide⟩ (fun _ => rfl) (by decide) (by decide) (Nat.le_of_ble_eq_true rfl) (by decide) ?_
  refine JC.fold (pc' := 312) (k' := 146) (sl' := 2517) (F' := FS_115) (M' := MS_78) rfl rfl rfl rfl rfl ?_
  refine JC.putF (ty := (.array .int)) d_M_ini_312 flc_M_123 flp_M_123 rfl ⟨by decide, by decide, rfl, rfl, rfl⟩ jr_narA jr_fitA ?_
  refine JC.fold (pc' := 315) (k' := 146) (sl' := 2517) (F' := FS_116) (M' := MS_78) rfl rfl rfl rfl rfl ?_
  refine JC.aload_n 0 (n := 109) d_M_ini_315 rfl rfl (by decide) ?_
  refine JC.bipush (v := (12 : Int32)) d_M_ini_316 (by decide) ?_
  refine JC.newi d_M_ini_318 (jt_1 92 rfl rfl) (Nat.le_of_ble_eq_true rfl) ⟨rfl, by decide⟩ (fun _ => rfl) (by decide) (by decide) (Nat.le_of_ble_eq_true rfl) (by decide) ?_
  refine JC.fold (pc' := 320) (k' := 147) (sl' := 2529) (F' := FS_116) (M' := MS_78) rfl rfl rfl rfl rfl ?_
  refine JC.putF (ty := (.array .int)) d_M_ini_320 flc_M_126 flp_M_126 rfl ⟨by decide, by decide, rfl, rfl, rfl⟩ jr_narA jr_fitA ?_
  refine JC.fold (pc' := 323) (k' := 147) (sl' := 2529) (F' := FS_117) (M' := MS_78) rfl rfl rfl rfl rfl ?_
  refine JC.aload_n 0 (n := 109) d_M_ini_323 rfl rfl (by decide) ?_
  refine JC.sipush (v := (4096 : Int32)) d_M_ini_324 (by decide) ?_
  refine JC.newi d_M_ini_327 (jt_1 92 rfl rfl) (Nat.le_of_ble_eq_true rfl) ⟨rfl, by decide⟩ (fun _ => rfl) (by decide) (by decide) (Nat.le_of_ble_eq_true rfl) (by decide) ?_
  refine JC.fold (pc' := 329) (k' := 148) (sl' := 6625) (F' := FS_117) (M' := MS_78) rfl rfl rfl rfl rfl ?_
  refine JC.putF (ty := (.array .int)) d_M_ini_329 flc_M_129 flp_M_129 rfl ⟨by decide, by decide, rfl, rfl, rfl⟩ jr_narA jr_fitA ?_
  refine JC.fold (pc' := 332) (k' := 148) (sl' := 6625) (F' := FS_118) (M' := MS_78) rfl rfl rfl rfl rfl ?_
  refine JC.toJ (M' := MS_120) rfl rfl rfl ?_
  show J (jGk G 148 FS_118) Y_M_ini _ [(0, jr (jGk G 148 FS_118) 109)] [] MS_78 (none, MS_120)
  refine J.iconst (v := (0 : Int32)) d_M_ini_332 (by decide) ?_
  refine J.istore_n (lv := [(1, .int (0 : Int32)), (0, jr (jGk G 148 FS_118) 109)]) d_M_ini_333 rfl (by decide) rfl ?_
  refine J.iload_n 0 d_M_ini_334 rfl rfl ?_
  refine J.bipush (v := (36 : Int32)) d_M_ini_335 (by decide) ?_
  refine J.icmp_ge 368 d_M_ini_337 rfl (fun c => absurd c (by decide)) (fun _ => ?_)
  refine J.nop (pc' := 340) rfl ?_
  refine J.aload_n 1 d_M_ini_340 rfl rfl ?_
  refine J.getf (c := 109) (v := jr (jGk G 148 FS_118) 120) d_M_ini_341 flc_M_45 ⟨by decide, (Nat.le_of_ble_eq_true rfl), rfl, rfl⟩ rfl ?_
  refine J.iload_n 0 d_M_ini_344 rfl rfl ?_
  refine J.iload_n 0 d_M_ini_345 rfl rfl ?_
  refine J.bipush (v := (6 : Int32)) d_M_ini_346 (by decide) ?_
  refine J.idiv d_M_ini_348 (by decide) ?_
  refine J.nop (pc' := 349) rfl ?_
  refine J.iload_n 0 d_M_ini_349 rfl rfl ?_
  refine J.bipush (v := (6 : Int32)) d_M_ini_350 (by decide) ?_
  refine J.irem d_M_ini_352 (by decide) ?_
  refine J.icmp_ne 360 d_M_ini_353 rfl (fun c => absurd c (by decide)) (fun _ => ?_)
  refine J.iconst (v := (0 : Int32)) d_M_ini_356 (by decide) ?_
  refine J.goto 361 d_M_ini_357 rfl ?_
  refine J.nop (pc' := 361) rfl ?_
  refine J.iastF (c := 120) (m' := MS_79) d_M_ini_361 ⟨by decide, (Nat.le_of_ble_eq_true rfl)⟩ (by unfold vp_in; decide) rfl ?_
  refine J.iinc 0 (v := (1 : Int32)) (lv := [(1, .int (1 : Int32)), (0, jr (jGk G 148 FS_118) 109)]) d_M_ini_362 rfl (by decide) (by decide) rfl ?_
  refine J.goto 334 d_M_ini_365 rfl ?_
  refine J.iload_n 0 d_M_ini_334 rfl rfl ?_
  refine J.bipush (v := (36 : Int32)) d_M_ini_335 (by decide) ?_
  refine J.icmp_ge 368 d_M_ini_337 rfl (fun c => absurd c (by decide)) (fun _ => ?_)
  refine J.nop (pc' := 340) rfl ?_
  refine J.aload_n 1 d_M_ini_340 rfl rfl ?_
  refine J.getf (c := 109) (v := jr (jGk G 148 FS_118) 120) d_M_ini_341 flc_M_45 ⟨by decide, (Nat.le_of_ble_eq_true rfl), rfl, rfl⟩ rfl ?_
  refine J.iload_n 0 d_M_ini_344 rfl rfl ?_
  refine J.iload_n 0 d_M_ini_345 rfl rfl ?_
  refine J.bipush (v := (6 : Int32)) d_M_ini_346 (by decide) ?_
  refine J.idiv d_M_ini_348 (by decide) ?_
  refine J.nop (pc' := 349) rfl ?_
  refine J.iload_n 0 d_M_ini_349 rfl rfl ?_
  refine J.bipush (v := (6 : Int32)) d_M_ini_350 (by decide) ?_
  refine J.irem d_M_ini_352 (by decide) ?_
  refine J.icmp_ne 360 d_M_ini_353 rfl (fun _ => ?_) (fun c => absurd c (by decide))
  refine J.iconst (v := (5 : Int32)) d_M_ini_360 (by decide) ?_
  refine J.iastF (c := 120) (m' := MS_80) d_M_ini_361 ⟨by decide, (Nat.le_of_ble_eq_true rfl)⟩ (by unfold vp_in; decide) rfl ?_
  refine J.nop (pc' := 362) rfl ?_
  refine J.iinc 0 (v := (1 : Int32)) (lv := [(1, .int (2 : Int32)), (0, jr (jGk G 148 FS_118) 109)]) d_M_ini_362 rfl (by decide) (by decide) rfl ?_
  refine J.goto 334 d_M_ini_365 rfl ?_
  refine J.iload_n 0 d_M_ini_334 rfl rfl ?_
  refine J.bipush (v := (36 : Int32)) d_M_ini_335 (by decide) ?_
  refine J.icmp_ge 368 d_M_ini_337 rfl (fun c => absurd c (by decide)) (fun _ => ?_)
  refine J.aload_n 1 d_M_ini_340 rfl rfl ?_
  refine J.nop (pc' := 341) rfl ?_
  refine J.getf (c := 109) (v := jr (jGk G 148 FS_118) 120) d_M_ini_341 flc_M_45 ⟨by decide, (Nat.le_of_ble_eq_true rfl), rfl, rfl⟩ rfl ?_
  refine J.iload_n 0 d_M_ini_344 rfl rfl ?_
  refine J.iload_n 0 d_M_ini_345 rfl rfl ?_
  refine J.bipush (v := (6 : Int32)) d_M_ini_346 (by decide) ?_
  refine J.idiv d_M_ini_348 (by decide) ?_
  refine J.iload_n 0 d_M_ini_349 rfl rfl ?_
  refine J.nop (pc' := 350) rfl ?_
  refine J.bipush (v := (6 : Int32)) d_M_ini_350 (by decide) ?_
  refine J.irem d_M_ini_352 (by decide) ?_
  refine J.icmp_ne 360 d_M_ini_353 rfl (fun _ => ?_) (fun c => absurd c (by decide))
  refine J.iconst (v := (5 : Int32)) d_M_ini_360 (by decide) ?_
  refine J.iastF (c := 120) (m' := MS_81) d_M_ini_361 ⟨by decide, (Nat.le_of_ble_eq_true rfl)⟩ (by unfold vp_in; decide) rfl ?_
  refine J.iinc 0 (v := (1 : Int32)) (lv := [(1, .int (3 : Int32)), (0, jr (jGk G 148 FS_118) 109)]) d_M_ini_362 rfl (by decide) (by decide) rfl ?_
  refine J.nop (pc' := 365) rfl ?_
  refine J.goto 334 d_M_ini_365 rfl ?_
  refine J.iload_n 0 d_M_ini_334 rfl rfl ?_
  refine J.bipush (v := (36 : Int32)) d_M_ini_335 (by decide) ?_
  refine J.icmp_ge 368 d_M_ini_337 rfl (fun c => absurd c (by decide)) (fun _ => ?_)
  refine J.aload_n 1 d_M_ini_340 rfl rfl ?_
  refine J.getf (c := 109) (v := jr (jGk G 148 FS_118) 120) d_M_ini_341 flc_M_45 ⟨by decide, (Nat.le_of_ble_eq_true rfl), rfl, rfl⟩ rfl ?_
  refine J.nop (pc' := 344) rfl ?_
  refine J.iload_n 0 d_M_ini_344 rfl rfl ?_
  refine J.iload_n 0 d_M_ini_345 rfl rfl ?_
  refine J.bipush (v := (6 : Int32)) d_M_ini_346 (by decide) ?_
  refine J.idiv d_M_ini_348 (by decide) ?_
  refine J.iload_n 0 d_M_ini_349 rfl rfl ?_
  refine J.bipush (v := (6 : Int32)) d_M_ini_350 (by decide) ?_
  refine J.nop (pc' := 352) rfl ?_
  refine J.irem d_M_ini_352 (by decide) ?_
  refine J.icmp_ne 360 d_M_ini_353 rfl (fun _ => ?_) (fun c => absurd c (by decide))
  refine J.iconst (v := (5 : Int32)) d_M_ini_360 (by decide) ?_
  refine J.iastF (c := 120) (m' := MS_82) d_M_ini_361 ⟨by decide, (Nat.le_of_ble_eq_true rfl)⟩ (by unfold vp_in; decide) rfl ?_
  refine J.iinc 0 (v := (1 : Int32)) (lv := [(1, .int (4 : Int32)), (0, jr (jGk G 148 FS_118) 109)]) d_M_ini_362 rfl (by decide) (by decide) rfl ?_
  refine J.goto 334 d_M_ini_365 rfl ?_
  refine J.nop (pc' := 334) rfl ?_
  refine J.iload_n 0 d_M_ini_334 rfl rfl ?_
  refine J.bipush (v := (36 : Int32)) d_M_ini_335 (by decide) ?_
  refine J.icmp_ge 368 d_M_ini_337 rfl (fun c => absurd c (by decide)) (fun _ => ?_)
  refine J.aload_n 1 d_M_ini_340 rfl rfl ?_
  refine J.getf (c := 109) (v := jr (jGk G 148 FS_118) 120) d_M_ini_341 flc_M_45 ⟨by decide, (Nat.le_of_ble_eq_true rfl), rfl, rfl⟩ rfl ?_
  refine J.iload_n 0 d_M_ini_344 rfl rfl ?_
  refine J.nop (pc' := 345) rfl ?_
  refine J.iload_n 0 d_M_ini_345 rfl rfl ?_
  refine J.bipush (v := (6 : Int32)) d_M_ini_346 (by decide) ?_
  refine J.idiv d_M_ini_348 (by decide) ?_
  refine J.iload_n 0 d_M_ini_349 rfl rfl ?_
  refine J.bipush (v := (6 : Int32)) d_M_ini_350 (by decide) ?_
  refine J.irem d_M_ini_352 (by decide) ?_
  refine J.nop (pc' := 353) rfl ?_
  refine J.icmp_ne 360 d_M_ini_353 rfl (fun _ => ?_) (fun c => absurd c (by decide))
  refine J.iconst (v := (5 : Int32)) d_M_ini_360 (by decide) ?_
  refine J.iastF (c := 120) (m' := MS_83) d_M_ini_361 ⟨by decide, (Nat.le_of_ble_eq_true rfl)⟩ (by unfold vp_in; decide) rfl ?_
  refine J.iinc 0 (v := (1 : Int32)) (lv := [(1, .int (5 : Int32)), (0, jr (jGk G 148 FS_118) 109)]) d_M_ini_362 rfl (by decide) (by decide) rfl ?_
  refine J.goto 334 d_M_ini_365 rfl ?_
  refine J.iload_n 0 d_M_ini_334 rfl rfl ?_
  refine J.nop (pc' := 335) rfl ?_
  refine J.bipush (v := (36 : Int32)) d_M_ini_335 (by decide) ?_
  refine J.icmp_ge 368 d_M_ini_337 rfl (fun c => absurd c (by decide)) (fun _ => ?_)
  refine J.aload_n 1 d_M_ini_340 rfl rfl ?_
  refine J.getf (c := 109) (v := jr (jGk G 148 FS_118) 120) d_M_ini_341 flc_M_45 ⟨by decide, (Nat.le_of_ble_eq_true rfl), rfl, rfl⟩ rfl ?_
  refine J.iload_n 0 d_M_ini_344 rfl rfl ?_
  refine J.iload_n 0 d_M_ini_345 rfl rfl ?_
  refine J.nop (pc' := 346) rfl ?_
  refine J.bipush (v := (6 : Int32)) d_M_ini_346 (by decide) ?_
  refine J.idiv d_M_ini_348 (by decide) ?_
  refine J.iload_n 0 d_M_ini_349 rfl rfl ?_
  refine J.bipush (v := (6 : Int32)) d_M_ini_350 (by decide) ?_
  refine J.irem d_M_ini_352 (by decide) ?_
  refine J.icmp_ne 360 d_M_ini_353 rfl (fun _ => ?_) (fun c => absurd c (by decide))
  refine J.nop (pc' := 360) rfl ?_
  refine J.iconst (v := (5 : Int32)) d_M_ini_360 (by decide) ?_
  refine J.iastF (c := 120) (m' := MS_84) d_M_ini_361 ⟨by decide, (Nat.le_of_ble_eq_true rfl)⟩ (by unfold vp_in; decide) rfl ?_
  refine J.iinc 0 (v := (1 : Int32)) (lv := [(1, .int (6 : Int32)), (0, jr (jGk G 148 FS_118) 109)]) d_M_ini_362 rfl (by decide) (by decide) rfl ?_
  refine J.goto 334 d_M_ini_365 rfl ?_
  refine J.iload_n 0 d_M_ini_334 rfl rfl ?_
  refine J.bipush (v := (36 : Int32)) d_M_ini_335 (by decide) ?_
  refine J.nop (pc' := 337) rfl ?_
  refine J.icmp_ge 368 d_M_ini_337 rfl (fun c => absurd c (by decide)) (fun _ => ?_)
  refine J.aload_n 1 d_M_ini_340 rfl rfl ?_
  refine J.getf (c := 109) (v := jr (jGk G 148 FS_118) 120) d_M_ini_341 flc_M_45 ⟨by decide, (Nat.le_of_ble_eq_true rfl), rfl, rfl⟩ rfl ?_
  refine J.iload_n 0 d_M_ini_344 rfl rfl ?_
  refine J.iload_n 0 d_M_ini_345 rfl rfl ?_
  refine J.bipush (v := (6 : Int32)) d_M_ini_346 (by decide) ?_
  refine J.nop (pc' := 348) rfl ?_
  refine J.idiv d_M_ini_348 (by decide) ?_
  refine J.iload_n 0 d_M_ini_349 rfl rfl ?_
  refine J.bipush (v := (6 : Int32)) d_M_ini_350 (by decide) ?_
  refine J.irem d_M_ini_352 (by decide) ?_
  refine J.icmp_ne 360 d_M_ini_353 rfl (fun _ => ?_) (fun c => absurd c (by decide))
  refine J.iconst (v := (5 : Int32)) d_M_ini_360 (by decide) ?_
  refine J.nop (pc' := 361) rfl ?_
  refine J.iastF (c := 120) (m' := MS_85) d_M_ini_361 ⟨by decide, (Nat.le_of_ble_eq_true rfl)⟩ (by unfold vp_in; decide) rfl ?_
  refine J.iinc 0 (v := (1 : Int32)) (lv := [(1, .int (7 : Int32)), (0, jr (jGk G 148 FS_118) 109)]) d_M_ini_362 rfl (by decide) (by decide) rfl ?_
  refine J.goto 334 d_M_ini_365 rfl ?_
  refine J.iload_n 0 d_M_ini_334 rfl rfl ?_
  refine J.bipush (v := (36 : Int32)) d_M_ini_335 (by decide) ?_
  refine J.icmp_ge 368 d_M_ini_337 rfl (fun c => absurd c (by decide)) (fun _ => ?_)
  refine J.nop (pc' := 340) rfl ?_
  refine J.aload_n 1 d_M_ini_340 rfl rfl ?_
  refine J.getf (c := 109) (v := jr (jGk G 148 FS_118) 120) d_M_ini_341 flc_M_45 ⟨by decide, (Nat.le_of_ble_eq_true rfl), rfl, rfl⟩ rfl ?_
  refine J.iload_n 0 d_M_ini_344 rfl rfl ?_
  refine J.iload_n 0 d_M_ini_345 rfl rfl ?_
  refine J.bipush (v := (6 : Int32)) d_M_ini_346 (by decide) ?_
  refine J.idiv d_M_ini_348 (by decide) ?_
  refine J.nop (pc' := 349) rfl ?_
  refine J.iload_n 0 d_M_ini_349 rfl rfl ?_
  refine J.bipush (v := (6 : Int32)) d_M_ini_350 (by decide) ?_
  refine J.irem d_M_ini_352 (by decide) ?_
  refine J.icmp_ne 360 d_M_ini_353 rfl (fun c => absurd c (by decide)) (fun _ => ?_)
  refine J.iconst (v := (0 : Int32)) d_M_ini_356 (by decide) ?_
  refine J.goto 361 d_M_ini_357 rfl ?_
  refine J.nop (pc' := 361) rfl ?_
  refine J.iastF (c := 120) (m' := MS_86) d_M_ini_361 ⟨by decide, (Nat.le_of_ble_eq_true rfl)⟩ (by unfold vp_in; decide) rfl ?_
  refine J.iinc 0 (v := (1 : Int32)) (lv := [(1, .int (8 : Int32)), (0, jr (jGk G 148 FS_118) 109)]) d_M_ini_362 rfl (by decide) (by decide) rfl ?_
  refine J.goto 334 d_M_ini_365 rfl ?_
  refine J.iload_n 0 d_M_ini_334 rfl rfl ?_
  refine J.bipush (v := (36 : Int32)) d_M_ini_335 (by decide) ?_
  refine J.icmp_ge 368 d_M_ini_337 rfl (fun c => absurd c (by decide)) (fun _ => ?_)
  refine J.nop (pc' := 340) rfl ?_
  refine J.aload_n 1 d_M_ini_340 rfl rfl ?_
  refine J.getf (c := 109) (v := jr (jGk G 148 FS_118) 120) d_M_ini_341 flc_M_45 ⟨by decide, (Nat.le_of_ble_eq_true rfl), rfl, rfl⟩ rfl ?_
  refine J.iload_n 0 d_M_ini_344 rfl rfl ?_
  refine J.iload_n 0 d_M_ini_345 rfl rfl ?_
  refine J.bipush (v := (6 : Int32)) d_M_ini_346 (by decide) ?_
  refine J.idiv d_M_ini_348 (by decide) ?_
  refine J.nop (pc' := 349) rfl ?_
  refine J.iload_n 0 d_M_ini_349 rfl rfl ?_
  refine J.bipush (v := (6 : Int32)) d_M_ini_350 (by decide) ?_
  refine J.irem d_M_ini_352 (by decide) ?_
  refine J.icmp_ne 360 d_M_ini_353 rfl (fun _ => ?_) (fun c => absurd c (by decide))
  refine J.iconst (v := (5 : Int32)) d_M_ini_360 (by decide) ?_
  refine J.iastF (c := 120) (m' := MS_87) d_M_ini_361 ⟨by decide, (Nat.le_of_ble_eq_true rfl)⟩ (by unfold vp_in; decide) rfl ?_
  refine J.nop (pc' := 362) rfl ?_
  refine J.iinc 0 (v := (1 : Int32)) (lv := [(1, .int (9 : Int32)), (0, jr (jGk G 148 FS_118) 109)]) d_M_ini_362 rfl (by decide) (by decide) rfl ?_
  refine J.goto 334 d_M_ini_365 rfl ?_
  refine J.iload_n 0 d_M_ini_334 rfl rfl ?_
  refine J.bipush (v := (36 : Int32)) d_M_ini_335 (by decide) ?_
  refine J.icmp_ge 368 d_M_ini_337 rfl (fun c => absurd c (by decide)) (fun _ => ?_)
  refine J.aload_n 1 d_M_ini_340 rfl rfl ?_
  refine J.nop (pc' := 341) rfl ?_
  refine J.getf (c := 109) (v := jr (jGk G 148 FS_118) 120) d_M_ini_341 flc_M_45 ⟨by decide, (Nat.le_of_ble_eq_true rfl), rfl, rfl⟩ rfl ?_
  refine J.iload_n 0 d_M_ini_344 rfl rfl ?_
  refine J.iload_n 0 d_M_ini_345 rfl rfl ?_
  refine J.bipush (v := (6 : Int32)) d_M_ini_346 (by decide) ?_
  refine J.idiv d_M_ini_348 (by decide) ?_
  refine J.iload_n 0 d_M_ini_349 rfl rfl ?_
  refine J.nop (pc' := 350) rfl ?_
  refine J.bipush (v := (6 : Int32)) d_M_ini_350 (by decide) ?_
  refine J.irem d_M_ini_352 (by decide) ?_
  refine J.icmp_ne 360 d_M_ini_353 rfl (fun _ => ?_) (fun c => absurd c (by decide))
  refine J.iconst (v := (5 : Int32)) d_M_ini_360 (by decide) ?_
  refine J.iastF (c := 120) (m' := MS_88) d_M_ini_361 ⟨by decide, (Nat.le_of_ble_eq_true rfl)⟩ (by unfold vp_in; decide) rfl ?_
  refine J.iinc 0 (v := (1 : Int32)) (lv := [(1, .int (10 : Int32)), (0, jr (jGk G 148 FS_118) 109)]) d_M_ini_362 rfl (by decide) (by decide) rfl ?_
  refine J.nop (pc' := 365) rfl ?_
  refine J.goto 334 d_M_ini_365 rfl ?_
  refine J.iload_n 0 d_M_ini_334 rfl rfl ?_
  refine J.bipush (v := (36 : Int32)) d_M_ini_335 (by decide) ?_
  refine J.icmp_ge 368 d_M_ini_337 rfl (fun c => absurd c (by decide)) (fun _ => ?_)
  refine J.aload_n 1 d_M_ini_340 rfl rfl ?_
  refine J.getf (c := 109) (v := jr (jGk G 148 FS_118) 120) d_M_ini_341 flc_M_45 ⟨by decide, (Nat.le_of_ble_eq_true rfl), rfl, rfl⟩ rfl ?_
  refine J.nop (pc' := 344) rfl ?_
  refine J.iload_n 0 d_M_ini_344 rfl rfl ?_
  refine J.iload_n 0 d_M_ini_345 rfl rfl ?_
  refine J.bipush (v := (6 : Int32)) d_M_ini_346 (by decide) ?_
  refine J.idiv d_M_ini_348 (by decide) ?_
  refine J.iload_n 0 d_M_ini_349 rfl rfl ?_
  refine J.bipush (v := (6 : Int32)) d_M_ini_350 (by decide) ?_
  refine J.nop (pc' := 352) rfl ?_
  refine J.irem d_M_ini_352 (by decide) ?_
  refine J.icmp_ne 360 d_M_ini_353 rfl (fun _ => ?_) (fun c => absurd c (by decide))
  refine J.iconst (v := (5 : Int32)) d_M_ini_360 (by decide) ?_
  refine J.iastF (c := 120) (m' := MS_89) d_M_ini_361 ⟨by decide, (Nat.le_of_ble_eq_true rfl)⟩ (by unfold vp_in; decide) rfl ?_
  refine J.iinc 0 (v := (1 : Int32)) (lv := [(1, .int (11 : Int32)), (0, jr (jGk G 148 FS_118) 109)]) d_M_ini_362 rfl (by decide) (by decide) rfl ?_
  refine J.goto 334 d_M_ini_365 rfl ?_
  refine J.nop (pc' := 334) rfl ?_
  refine J.iload_n 0 d_M_ini_334 rfl rfl ?_
  refine J.bipush (v := (36 : Int32)) d_M_ini_335 (by decide) ?_
  refine J.icmp_ge 368 d_M_ini_337 rfl (fun c => absurd c (by decide)) (fun _ => ?_)
  refine J.aload_n 1 d_M_ini_340 rfl rfl ?_
  refine J.getf (c := 109) (v := jr (jGk G 148 FS_118) 120) d_M_ini_341 flc_M_45 ⟨by decide, (Nat.le_of_ble_eq_true rfl), rfl, rfl⟩ rfl ?_
  refine J.iload_n 0 d_M_ini_344 rfl rfl ?_
  refine J.nop (pc' := 345) rfl ?_
  refine J.iload_n 0 d_M_ini_345 rfl rfl ?_
  refine J.bipush (v := (6 : Int32)) d_M_ini_346 (by decide) ?_
  refine J.idiv d_M_ini_348 (by decide) ?_
  refine J.iload_n 0 d_M_ini_349 rfl rfl ?_
  refine J.bipush (v := (6 : Int32)) d_M_ini_350 (by decide) ?_
  refine J.irem d_M_ini_352 (by decide) ?_
  refine J.nop (pc' := 353) rfl ?_
  refine J.icmp_ne 360 d_M_ini_353 rfl (fun _ => ?_) (fun c => absurd c (by decide))
  refine J.iconst (v := (5 : Int32)) d_M_ini_360 (by decide) ?_
  refine J.iastF (c := 120) (m' := MS_90) d_M_ini_361 ⟨by decide, (Nat.le_of_ble_eq_true rfl)⟩ (by unfold vp_in; decide) rfl ?_
  refine J.iinc 0 (v := (1 : Int32)) (lv := [(1, .int (12 : Int32)), (0, jr (jGk G 148 FS_118) 109)]) d_M_ini_362 rfl (by decide) (by decide) rfl ?_
  refine J.goto 334 d_M_ini_365 rfl ?_
  refine J.iload_n 0 d_M_ini_334 rfl rfl ?_
  refine J.nop (pc' := 335) rfl ?_
  refine J.bipush (v := (36 : Int32)) d_M_ini_335 (by decide) ?_
  refine J.icmp_ge 368 d_M_ini_337 rfl (fun c => absurd c (by decide)) (fun _ => ?_)
  refine J.aload_n 1 d_M_ini_340 rfl rfl ?_
  refine J.getf (c := 109) (v := jr (jGk G 148 FS_118) 120) d_M_ini_341 flc_M_45 ⟨by decide, (Nat.le_of_ble_eq_true rfl), rfl, rfl⟩ rfl ?_
  refine J.iload_n 0 d_M_ini_344 rfl rfl ?_
  refine J.iload_n 0 d_M_ini_345 rfl rfl ?_
  refine J.nop (pc' := 346) rfl ?_
  refine J.bipush (v := (6 : Int32)) d_M_ini_346 (by decide) ?_
  refine J.idiv d_M_ini_348 (by decide) ?_
  refine J.iload_n 0 d_M_ini_349 rfl rfl ?_
  refine J.bipush (v := (6 : Int32)) d_M_ini_350 (by decide) ?_
  refine J.irem d_M_ini_352 (by decide) ?_
  refine J.icmp_ne 360 d_M_ini_353 rfl (fun _ => ?_) (fun c => absurd c (by decide))
  refine J.nop (pc' := 360) rfl ?_
  refine J.iconst (v := (5 : Int32)) d_M_ini_360 (by decide) ?_
  refine J.iastF (c := 120) (m' := MS_91) d_M_ini_361 ⟨by decide, (Nat.le_of_ble_eq_true rfl)⟩ (by unfold vp_in; decide) rfl ?_
  refine J.iinc 0 (v := (1 : Int32)) (lv := [(1, .int (13 : Int32)), (0, jr (jGk G 148 FS_118) 109)]) d_M_ini_362 rfl (by decide) (by decide) rfl ?_
  refine J.goto 334 d_M_ini_365 rfl ?_
  refine J.iload_n 0 d_M_ini_334 rfl rfl ?_
  refine J.bipush (v := (36 : Int32)) d_M_ini_335 (by decide) ?_
  refine J.nop (pc' := 337) rfl ?_
  refine J.icmp_ge 368 d_M_ini_337 rfl (fun c => absurd c (by decide)) (fun _ => ?_)
  refine J.aload_n 1 d_M_ini_340 rfl rfl ?_
  refine J.getf (c := 109) (v := jr (jGk G 148 FS_118) 120) d_M_ini_341 flc_M_45 ⟨by decide, (Nat.le_of_ble_eq_true rfl), rfl, rfl⟩ rfl ?_
  refine J.iload_n 0 d_M_ini_344 rfl rfl ?_
  refine J.iload_n 0 d_M_ini_345 rfl rfl ?_
  refine J.bipush (v := (6 : Int32)) d_M_ini_346 (by decide) ?_
  refine J.nop (pc' := 348) rfl ?_
  refine J.idiv d_M_ini_348 (by decide) ?_
  refine J.iload_n 0 d_M_ini_349 rfl rfl ?_
  refine J.bipush (v := (6 : Int32)) d_M_ini_350 (by decide) ?_
  refine J.irem d_M_ini_352 (by decide) ?_
  refine J.icmp_ne 360 d_M_ini_353 rfl (fun _ => ?_) (fun c => absurd c (by decide))
  refine J.iconst (v := (5 : Int32)) d_M_ini_360 (by decide) ?_
  refine J.nop (pc' := 361) rfl ?_
  refine J.iastF (c := 120) (m' := MS_92) d_M_ini_361 ⟨by decide, (Nat.le_of_ble_eq_true rfl)⟩ (by unfold vp_in; decide) rfl ?_
  refine J.iinc 0 (v := (1 : Int32)) (lv := [(1, .int (14 : Int32)), (0, jr (jGk G 148 FS_118) 109)]) d_M_ini_362 rfl (by decide) (by decide) rfl ?_
  refine J.goto 334 d_M_ini_365 rfl ?_
  refine J.iload_n 0 d_M_ini_334 rfl rfl ?_
  refine J.bipush (v := (36 : Int32)) d_M_ini_335 (by decide) ?_
  refine J.icmp_ge 368 d_M_ini_337 rfl (fun c => absurd c (by decide)) (fun _ => ?_)
  refine J.nop (pc' := 340) rfl ?_
  refine J.aload_n 1 d_M_ini_340 rfl rfl ?_
  refine J.getf (c := 109) (v := jr (jGk G 148 FS_118) 120) d_M_ini_341 flc_M_45 ⟨by decide, (Nat.le_of_ble_eq_true rfl), rfl, rfl⟩ rfl ?_
  refine J.iload_n 0 d_M_ini_344 rfl rfl ?_
  refine J.iload_n 0 d_M_ini_345 rfl rfl ?_
  refine J.bipush (v := (6 : Int32)) d_M_ini_346 (by decide) ?_
  refine J.idiv d_M_ini_348 (by decide) ?_
  refine J.nop (pc' := 349) rfl ?_
  refine J.iload_n 0 d_M_ini_349 rfl rfl ?_
  refine J.bipush (v := (6 : Int32)) d_M_ini_350 (by decide) ?_
  refine J.irem d_M_ini_352 (by decide) ?_
  refine J.icmp_ne 360 d_M_ini_353 rfl (fun c => absurd c (by decide)) (fun _ => ?_)
  refine J.iconst (v := (0 : Int32)) d_M_ini_356 (by decide) ?_
  refine J.goto 361 d_M_ini_357 rfl ?_
  refine J.nop (pc' := 361) rfl ?_
  refine J.iastF (c := 120) (m' := MS_93) d_M_ini_361 ⟨by decide, (Nat.le_of_ble_eq_true rfl)⟩ (by unfold vp_in; decide) rfl ?_
  refine J.iinc 0 (v := (1 : Int32)) (lv := [(1, .int (15 : Int32)), (0, jr (jGk G 148 FS_118) 109)]) d_M_ini_362 rfl (by decide) (by decide) rfl ?_
  refine J.goto 334 d_M_ini_365 rfl ?_
  refine J.iload_n 0 d_M_ini_334 rfl rfl ?_
  refine J.bipush (v := (36 : Int32)) d_M_ini_335 (by decide) ?_
  refine J.icmp_ge 368 d_M_ini_337 rfl (fun c => absurd c (by decide)) (fun _ => ?_)
  refine J.nop (pc' := 340) rfl ?_
  refine J.aload_n 1 d_M_ini_340 rfl rfl ?_
  refine J.getf (c := 109) (v := jr (jGk G 148 FS_118) 120) d_M_ini_341 flc_M_45 ⟨by decide, (Nat.le_of_ble_eq_true rfl), rfl, rfl⟩ rfl ?_
  refine J.iload_n 0 d_M_ini_344 rfl rfl ?_
  refine J.iload_n 0 d_M_ini_345 rfl rfl ?_
  refine J.bipush (v := (6 : Int32)) d_M_ini_346 (by decide) ?_
  refine J.idiv d_M_ini_348 (by decide) ?_
  refine J.nop (pc' := 349) rfl ?_
  refine J.iload_n 0 d_M_ini_349 rfl rfl ?_
  refine J.bipush (v := (6 : Int32)) d_M_ini_350 (by decide) ?_
  refine J.irem d_M_ini_352 (by decide) ?_
  refine J.icmp_ne 360 d_M_ini_353 rfl (fun _ => ?_) (fun c => absurd c (by decide))
  refine J.iconst (v := (5 : Int32)) d_M_ini_360 (by decide) ?_
  refine J.iastF (c := 120) (m' := MS_94) d_M_ini_361 ⟨by decide, (Nat.le_of_ble_eq_true rfl)⟩ (by unfold vp_in; decide) rfl ?_
  refine J.nop (pc' := 362) rfl ?_
  refine J.iinc 0 (v := (1 : Int32)) (lv := [(1, .int (16 : Int32)), (0, jr (jGk G 148 FS_118) 109)]) d_M_ini_362 rfl (by decide) (by decide) rfl ?_
  refine J.goto 334 d_M_ini_365 rfl ?_
  refine J.iload_n 0 d_M_ini_334 rfl rfl ?_
  refine J.bipush (v := (36 : Int32)) d_M_ini_335 (by decide) ?_
  refine J.icmp_ge 368 d_M_ini_337 rfl (fun c => absurd c (by decide)) (fun _ => ?_)
  refine J.aload_n 1 d_M_ini_340 rfl rfl ?_
  refine J.nop (pc' := 341) rfl ?_
  refine J.getf (c := 109) (v := jr (jGk G 148 FS_118) 120) d_M_ini_341 flc_M_45 ⟨by decide, (Nat.le_of_ble_eq_true rfl), rfl, rfl⟩ rfl ?_
  refine J.iload_n 0 d_M_ini_344 rfl rfl ?_
  refine J.iload_n 0 d_M_ini_345 rfl rfl ?_
  refine J.bipush (v := (6 : Int32)) d_M_ini_346 (by decide) ?_
  refine J.idiv d_M_ini_348 (by decide) ?_
  refine J.iload_n 0 d_M_ini_349 rfl rfl ?_
  refine J.nop (pc' := 350) rfl ?_
  refine J.bipush (v := (6 : Int32)) d_M_ini_350 (by decide) ?_
  refine J.irem d_M_ini_352 (by decide) ?_
  refine J.icmp_ne 360 d_M_ini_353 rfl (fun _ => ?_) (fun c => absurd c (by decide))
  refine J.iconst (v := (5 : Int32)) d_M_ini_360 (by decide) ?_
  refine J.iastF (c := 120) (m' := MS_95) d_M_ini_361 ⟨by decide, (Nat.le_of_ble_eq_true rfl)⟩ (by unfold vp_in; decide) rfl ?_
  refine J.iinc 0 (v := (1 : Int32)) (lv := [(1, .int (17 : Int32)), (0, jr (jGk G 148 FS_118) 109)]) d_M_ini_362 rfl (by decide) (by decide) rfl ?_
  refine J.nop (pc' := 365) rfl ?_
  refine J.goto 334 d_M_ini_365 rfl ?_
  refine J.iload_n 0 d_M_ini_334 rfl rfl ?_
  refine J.bipush (v := (36 : Int32)) d_M_ini_335 (by decide) ?_
  refine J.icmp_ge 368 d_M_ini_337 rfl (fun c => absurd c (by decide)) (fun _ => ?_)
  refine J.aload_n 1 d_M_ini_340 rfl rfl ?_
  refine J.getf (c := 109) (v := jr (jGk G 148 FS_118) 120) d_M_ini_341 flc_M_45 ⟨by decide, (Nat.le_of_ble_eq_true rfl), rfl, rfl⟩ rfl ?_
  refine J.nop (pc' := 344) rfl ?_
  refine J.iload_n 0 d_M_ini_344 rfl rfl ?_
  refine J.iload_n 0 d_M_ini_345 rfl rfl ?_
  refine J.bipush (v := (6 : Int32)) d_M_ini_346 (by decide) ?_
  refine J.idiv d_M_ini_348 (by decide) ?_
  refine J.iload_n 0 d_M_ini_349 rfl rfl ?_
  refine J.bipush (v := (6 : Int32)) d_M_ini_350 (by decide) ?_
  refine J.nop (pc' := 352) rfl ?_
  refine J.irem d_M_ini_352 (by decide) ?_
  refine J.icmp_ne 360 d_M_ini_353 rfl (fun _ => ?_) (fun c => absurd c (by decide))
  refine J.iconst (v := (5 : Int32)) d_M_ini_360 (by decide) ?_
  refine J.iastF (c := 120) (m' := MS_96) d_M_ini_361 ⟨by decide, (Nat.le_of_ble_eq_true rfl)⟩ (by unfold vp_in; decide) rfl ?_
  refine J.iinc 0 (v := (1 : Int32)) (lv := [(1, .int (18 : Int32)), (0, jr (jGk G 148 FS_118) 109)]) d_M_ini_362 rfl (by decide) (by decide) rfl ?_
  refine J.goto 334 d_M_ini_365 rfl ?_
  refine J.nop (pc' := 334) rfl ?_
  refine J.iload_n 0 d_M_ini_334 rfl rfl ?_
  refine J.bipush (v := (36 : Int32)) d_M_ini_335 (by decide) ?_
  refine J.icmp_ge 368 d_M_ini_337 rfl (fun c => absurd c (by decide)) (fun _ => ?_)
  refine J.aload_n 1 d_M_ini_340 rfl rfl ?_
  refine J.getf (c := 109) (v := jr (jGk G 148 FS_118) 120) d_M_ini_341 flc_M_45 ⟨by decide, (Nat.le_of_ble_eq_true rfl), rfl, rfl⟩ rfl ?_
  refine J.iload_n 0 d_M_ini_344 rfl rfl ?_
  refine J.nop (pc' := 345) rfl ?_
  refine J.iload_n 0 d_M_ini_345 rfl rfl ?_
  refine J.bipush (v := (6 : Int32)) d_M_ini_346 (by decide) ?_
  refine J.idiv d_M_ini_348 (by decide) ?_
  refine J.iload_n 0 d_M_ini_349 rfl rfl ?_
  refine J.bipush (v := (6 : Int32)) d_M_ini_350 (by decide) ?_
  refine J.irem d_M_ini_352 (by decide) ?_
  refine J.nop (pc' := 353) rfl ?_
  refine J.icmp_ne 360 d_M_ini_353 rfl (fun _ => ?_) (fun c => absurd c (by decide))
  refine J.iconst (v := (5 : Int32)) d_M_ini_360 (by decide) ?_
  refine J.iastF (c := 120) (m' := MS_97) d_M_ini_361 ⟨by decide, (Nat.le_of_ble_eq_true rfl)⟩ (by unfold vp_in; decide) rfl ?_
  refine J.iinc 0 (v := (1 : Int32)) (lv := [(1, .int (19 : Int32)), (0, jr (jGk G 148 FS_118) 109)]) d_M_ini_362 rfl (by decide) (by decide) rfl ?_
  refine J.goto 334 d_M_ini_365 rfl ?_
  refine J.iload_n 0 d_M_ini_334 rfl rfl ?_
  refine J.nop (pc' := 335) rfl ?_
  refine J.bipush (v := (36 : Int32)) d_M_ini_335 (by decide) ?_
  refine J.icmp_ge 368 d_M_ini_337 rfl (fun c => absurd c (by decide)) (fun _ => ?_)
  refine J.aload_n 1 d_M_ini_340 rfl rfl ?_
  refine J.getf (c := 109) (v := jr (jGk G 148 FS_118) 120) d_M_ini_341 flc_M_45 ⟨by decide, (Nat.le_of_ble_eq_true rfl), rfl, rfl⟩ rfl ?_
  refine J.iload_n 0 d_M_ini_344 rfl rfl ?_
  refine J.iload_n 0 d_M_ini_345 rfl rfl ?_
  refine J.nop (pc' := 346) rfl ?_
  refine J.bipush (v := (6 : Int32)) d_M_ini_346 (by decide) ?_
  refine J.idiv d_M_ini_348 (by decide) ?_
  refine J.iload_n 0 d_M_ini_349 rfl rfl ?_
  refine J.bipush (v := (6 : Int32)) d_M_ini_350 (by decide) ?_
  refine J.irem d_M_ini_352 (by decide) ?_
  refine J.icmp_ne 360 d_M_ini_353 rfl (fun _ => ?_) (fun c => absurd c (by decide))
  refine J.nop (pc' := 360) rfl ?_
  refine J.iconst (v := (5 : Int32)) d_M_ini_360 (by decide) ?_
  refine J.iastF (c := 120) (m' := MS_98) d_M_ini_361 ⟨by decide, (Nat.le_of_ble_eq_true rfl)⟩ (by unfold vp_in; decide) rfl ?_
  refine J.iinc 0 (v := (1 : Int32)) (lv := [(1, .int (20 : Int32)), (0, jr (jGk G 148 FS_118) 109)]) d_M_ini_362 rfl (by decide) (by decide) rfl ?_
  refine J.goto 334 d_M_ini_365 rfl ?_
  refine J.iload_n 0 d_M_ini_334 rfl rfl ?_
  refine J.bipush (v := (36 : Int32)) d_M_ini_335 (by decide) ?_
  refine J.nop (pc' := 337) rfl ?_
  refine J.icmp_ge 368 d_M_ini_337 rfl (fun c => absurd c (by decide)) (fun _ => ?_)
  refine J.aload_n 1 d_M_ini_340 rfl rfl ?_
  refine J.getf (c := 109) (v := jr (jGk G 148 FS_118) 120) d_M_ini_341 flc_M_45 ⟨by decide, (Nat.le_of_ble_eq_true rfl), rfl, rfl⟩ rfl ?_
  refine J.iload_n 0 d_M_ini_344 rfl rfl ?_
  refine J.iload_n 0 d_M_ini_345 rfl rfl ?_
  refine J.bipush (v := (6 : Int32)) d_M_ini_346 (by decide) ?_
  refine J.nop (pc' := 348) rfl ?_
  refine J.idiv d_M_ini_348 (by decide) ?_
  refine J.iload_n 0 d_M_ini_349 rfl rfl ?_
  refine J.bipush (v := (6 : Int32)) d_M_ini_350 (by decide) ?_
  refine J.irem d_M_ini_352 (by decide) ?_
  refine J.icmp_ne 360 d_M_ini_353 rfl (fun _ => ?_) (fun c => absurd c (by decide))
  refine J.iconst (v := (5 : Int32)) d_M_ini_360 (by decide) ?_
  refine J.nop (pc' := 361) rfl ?_
  refine J.iastF (c := 120) (m' := MS_99) d_M_ini_361 ⟨by decide, (Nat.le_of_ble_eq_true rfl)⟩ (by unfold vp_in; decide) rfl ?_
  refine J.iinc 0 (v := (1 : Int32)) (lv := [(1, .int (21 : Int32)), (0, jr (jGk G 148 FS_118) 109)]) d_M_ini_362 rfl (by decide) (by decide) rfl ?_
  refine J.goto 334 d_M_ini_365 rfl ?_
  refine J.iload_n 0 d_M_ini_334 rfl rfl ?_
  refine J.bipush (v := (36 : Int32)) d_M_ini_335 (by decide) ?_
  refine J.icmp_ge 368 d_M_ini_337 rfl (fun c => absurd c (by decide)) (fun _ => ?_)
  refine J.nop (pc' := 340) rfl ?_
  refine J.aload_n 1 d_M_ini_340 rfl rfl ?_
  refine J.getf (c := 109) (v := jr (jGk G 148 FS_118) 120) d_M_ini_341 flc_M_45 ⟨by decide, (Nat.le_of_ble_eq_true rfl), rfl, rfl⟩ rfl ?_
  refine J.iload_n 0 d_M_ini_344 rfl rfl ?_
  refine J.iload_n 0 d_M_ini_345 rfl rfl ?_
  refine J.bipush (v := (6 : Int32)) d_M_ini_346 (by decide) ?_
  refine J.idiv d_M_ini_348 (by decide) ?_
  refine J.nop (pc' := 349) rfl ?_
  refine J.iload_n 0 d_M_ini_349 rfl rfl ?_
  refine J.bipush (v := (6 : Int32)) d_M_ini_350 (by decide) ?_
  refine J.irem d_M_ini_352 (by decide) ?_
  refine J.icmp_ne 360 d_M_ini_353 rfl (fun c => absurd c (by decide)) (fun _ => ?_)
  refine J.iconst (v := (0 : Int32)) d_M_ini_356 (by decide) ?_
  refine J.goto 361 d_M_ini_357 rfl ?_
  refine J.nop (pc' := 361) rfl ?_
  refine J.iastF (c := 120) (m' := MS_100) d_M_ini_361 ⟨by decide, (Nat.le_of_ble_eq_true rfl)⟩ (by unfold vp_in; decide) rfl ?_
  refine J.iinc 0 (v := (1 : Int32)) (lv := [(1, .int (22 : Int32)), (0, jr (jGk G 148 FS_118) 109)]) d_M_ini_362 rfl (by decide) (by decide) rfl ?_
  refine J.goto 334 d_M_ini_365 rfl ?_
  refine J.iload_n 0 d_M_ini_334 rfl rfl ?_
  refine J.bipush (v := (36 : Int32)) d_M_ini_335 (by decide) ?_
  refine J.icmp_ge 368 d_M_ini_337 rfl (fun c => absurd c (by decide)) (fun _ => ?_)
  refine J.nop (pc' := 340) rfl ?_
  refine J.aload_n 1 d_M_ini_340 rfl rfl ?_
  refine J.getf (c := 109) (v := jr (jGk G 148 FS_118) 120) d_M_ini_341 flc_M_45 ⟨by decide, (Nat.le_of_ble_eq_true rfl), rfl, rfl⟩ rfl ?_
  refine J.iload_n 0 d_M_ini_344 rfl rfl ?_
  refine J.iload_n 0 d_M_ini_345 rfl rfl ?_
  refine J.bipush (v := (6 : Int32)) d_M_ini_346 (by decide) ?_
  refine J.idiv d_M_ini_348 (by decide) ?_
  refine J.nop (pc' := 349) rfl ?_
  refine J.iload_n 0 d_M_ini_349 rfl rfl ?_
  refine J.bipush (v := (6 : Int32)) d_M_ini_350 (by decide) ?_
  refine J.irem d_M_ini_352 (by decide) ?_
  refine J.icmp_ne 360 d_M_ini_353 rfl (fun _ => ?_) (fun c => absurd c (by decide))
  refine J.iconst (v := (5 : Int32)) d_M_ini_360 (by decide) ?_
  refine J.iastF (c := 120) (m' := MS_101) d_M_ini_361 ⟨by decide, (Nat.le_of_ble_eq_true rfl)⟩ (by unfold vp_in; decide) rfl ?_
  refine J.nop (pc' := 362) rfl ?_
  refine J.iinc 0 (v := (1 : Int32)) (lv := [(1, .int (23 : Int32)), (0, jr (jGk G 148 FS_118) 109)]) d_M_ini_362 rfl (by decide) (by decide) rfl ?_
  refine J.goto 334 d_M_ini_365 rfl ?_
  refine J.iload_n 0 d_M_ini_334 rfl rfl ?_
  refine J.bipush (v := (36 : Int32)) d_M_ini_335 (by decide) ?_
  refine J.icmp_ge 368 d_M_ini_337 rfl (fun c => absurd c (by decide)) (fun _ => ?_)
  refine J.aload_n 1 d_M_ini_340 rfl rfl ?_
  refine J.nop (pc' := 341) rfl ?_
  refine J.getf (c := 109) (v := jr (jGk G 148 FS_118) 120) d_M_ini_341 flc_M_45 ⟨by decide, (Nat.le_of_ble_eq_true rfl), rfl, rfl⟩ rfl ?_
  refine J.iload_n 0 d_M_ini_344 rfl rfl ?_
  refine J.iload_n 0 d_M_ini_345 rfl rfl ?_
  refine J.bipush (v := (6 : Int32)) d_M_ini_346 (by decide) ?_
  refine J.idiv d_M_ini_348 (by decide) ?_
  refine J.iload_n 0 d_M_ini_349 rfl rfl ?_
  refine J.nop (pc' := 350) rfl ?_
  refine J.bipush (v := (6 : Int32)) d_M_ini_350 (by decide) ?_
  refine J.irem d_M_ini_352 (by decide) ?_
  refine J.icmp_ne 360 d_M_ini_353 rfl (fun _ => ?_) (fun c => absurd c (by decide))
  refine J.iconst (v := (5 : Int32)) d_M_ini_360 (by decide) ?_
  refine J.iastF (c := 120) (m' := MS_102) d_M_ini_361 ⟨by decide, (Nat.le_of_ble_eq_true rfl)⟩ (by unfold vp_in; decide) rfl ?_
  refine J.iinc 0 (v := (1 : Int32)) (lv := [(1, .int (24 : Int32)), (0, jr (jGk G 148 FS_118) 109)]) d_M_ini_362 rfl (by decide) (by decide) rfl ?_
  refine J.nop (pc' := 365) rfl ?_
  refine J.goto 334 d_M_ini_365 rfl ?_
  refine J.iload_n 0 d_M_ini_334 rfl rfl ?_
  refine J.bipush (v := (36 : Int32)) d_M_ini_335 (by decide) ?_
  refine J.icmp_ge 368 d_M_ini_337 rfl (fun c => absurd c (by decide)) (fun _ => ?_)
  refine J.aload_n 1 d_M_ini_340 rfl rfl ?_
  refine J.getf (c := 109) (v := jr (jGk G 148 FS_118) 120) d_M_ini_341 flc_M_45 ⟨by decide, (Nat.le_of_ble_eq_true rfl), rfl, rfl⟩ rfl ?_
  refine J.nop (pc' := 344) rfl ?_
  refine J.iload_n 0 d_M_ini_344 rfl rfl ?_
  refine J.iload_n 0 d_M_ini_345 rfl rfl ?_
  refine J.bipush (v := (6 : Int32)) d_M_ini_346 (by decide) ?_
  refine J.idiv d_M_ini_348 (by decide) ?_
  refine J.iload_n 0 d_M_ini_349 rfl rfl ?_
  refine J.bipush (v := (6 : Int32)) d_M_ini_350 (by decide) ?_
  refine J.nop (pc' := 352) rfl ?_
  refine J.irem d_M_ini_352 (by decide) ?_
  refine J.icmp_ne 360 d_M_ini_353 rfl (fun _ => ?_) (fun c => absurd c (by decide))
  refine J.iconst (v := (5 : Int32)) d_M_ini_360 (by decide) ?_
  refine J.iastF (c := 120) (m' := MS_103) d_M_ini_361 ⟨by decide, (Nat.le_of_ble_eq_true rfl)⟩ (by unfold vp_in; decide) rfl ?_
  refine J.iinc 0 (v := (1 : Int32)) (lv := [(1, .int (25 : Int32)), (0, jr (jGk G 148 FS_118) 109)]) d_M_ini_362 rfl (by decide) (by decide) rfl ?_
  refine J.goto 334 d_M_ini_365 rfl ?_
  refine J.nop (pc' := 334) rfl ?_
  refine J.iload_n 0 d_M_ini_334 rfl rfl ?_
  refine J.bipush (v := (36 : Int32)) d_M_ini_335 (by decide) ?_
  refine J.icmp_ge 368 d_M_ini_337 rfl (fun c => absurd c (by decide)) (fun _ => ?_)
  refine J.aload_n 1 d_M_ini_340 rfl rfl ?_
  refine J.getf (c := 109) (v := jr (jGk G 148 FS_118) 120) d_M_ini_341 flc_M_45 ⟨by decide, (Nat.le_of_ble_eq_true rfl), rfl, rfl⟩ rfl ?_
  refine J.iload_n 0 d_M_ini_344 rfl rfl ?_
  refine J.nop (pc' := 345) rfl ?_
  refine J.iload_n 0 d_M_ini_345 rfl rfl ?_
  refine J.bipush (v := (6 : Int32)) d_M_ini_346 (by decide) ?_
  refine J.idiv d_M_ini_348 (by decide) ?_
  refine J.iload_n 0 d_M_ini_349 rfl rfl ?_
  refine J.bipush (v := (6 : Int32)) d_M_ini_350 (by decide) ?_
  refine J.irem d_M_ini_352 (by decide) ?_
  refine J.nop (pc' := 353) rfl ?_
  refine J.icmp_ne 360 d_M_ini_353 rfl (fun _ => ?_) (fun c => absurd c (by decide))
  refine J.iconst (v := (5 : Int32)) d_M_ini_360 (by decide) ?_
  refine J.iastF (c := 120) (m' := MS_104) d_M_ini_361 ⟨by decide, (Nat.le_of_ble_eq_true rfl)⟩ (by unfold vp_in; decide) rfl ?_
  refine J.iinc 0 (v := (1 : Int32)) (lv := [(1, .int (26 : Int32)), (0, jr (jGk G 148 FS_118) 109)]) d_M_ini_362 rfl (by decide) (by decide) rfl ?_
  refine J.goto 334 d_M_ini_365 rfl ?_
  refine J.iload_n 0 d_M_ini_334 rfl rfl ?_
  refine J.nop (pc' := 335) rfl ?_
  refine J.bipush (v := (36 : Int32)) d_M_ini_335 (by decide) ?_
  refine J.icmp_ge 368 d_M_ini_337 rfl (fun c => absurd c (by decide)) (fun _ => ?_)
  refine J.aload_n 1 d_M_ini_340 rfl rfl ?_
  refine J.getf (c := 109) (v := jr (jGk G 148 FS_118) 120) d_M_ini_341 flc_M_45 ⟨by decide, (Nat.le_of_ble_eq_true rfl), rfl, rfl⟩ rfl ?_
  refine J.iload_n 0 d_M_ini_344 rfl rfl ?_
  refine J.iload_n 0 d_M_ini_345 rfl rfl ?_
  refine J.nop (pc' := 346) rfl ?_
  refine J.bipush (v := (6 : Int32)) d_M_ini_346 (by decide) ?_
  refine J.idiv d_M_ini_348 (by decide) ?_
  refine J.iload_n 0 d_M_ini_349 rfl rfl ?_
  refine J.bipush (v := (6 : Int32)) d_M_ini_350 (by decide) ?_
  refine J.irem d_M_ini_352 (by decide) ?_
  refine J.icmp_ne 360 d_M_ini_353 rfl (fun _ => ?_) (fun c => absurd c (by decide))
  refine J.nop (pc' := 360) rfl ?_
  refine J.iconst (v := (5 : Int32)) d_M_ini_360 (by decide) ?_
  refine J.iastF (c := 120) (m' := MS_105) d_M_ini_361 ⟨by decide, (Nat.le_of_ble_eq_true rfl)⟩ (by unfold vp_in; decide) rfl ?_
  refine J.iinc 0 (v := (1 : Int32)) (lv := [(1, .int (27 : Int32)), (0, jr (jGk G 148 FS_118) 109)]) d_M_ini_362 rfl (by decide) (by decide) rfl ?_
  refine J.goto 334 d_M_ini_365 rfl ?_
  refine J.iload_n 0 d_M_ini_334 rfl rfl ?_
  refine J.bipush (v := (36 : Int32)) d_M_ini_335 (by decide) ?_
  refine J.nop (pc' := 337) rfl ?_
  refine J.icmp_ge 368 d_M_ini_337 rfl (fun c => absurd c (by decide)) (fun _ => ?_)
  refine J.aload_n 1 d_M_ini_340 rfl rfl ?_
  refine J.getf (c := 109) (v := jr (jGk G 148 FS_118) 120) d_M_ini_341 flc_M_45 ⟨by decide, (Nat.le_of_ble_eq_true rfl), rfl, rfl⟩ rfl ?_
  refine J.iload_n 0 d_M_ini_344 rfl rfl ?_
  refine J.iload_n 0 d_M_ini_345 rfl rfl ?_
  refine J.bipush (v := (6 : Int32)) d_M_ini_346 (by decide) ?_
  refine J.nop (pc' := 348) rfl ?_
  refine J.idiv d_M_ini_348 (by decide) ?_
  refine J.iload_n 0 d_M_ini_349 rfl rfl ?_
  refine J.bipush (v := (6 : Int32)) d_M_ini_350 (by decide) ?_
  refine J.irem d_M_ini_352 (by decide) ?_
  refine J.icmp_ne 360 d_M_ini_353 rfl (fun _ => ?_) (fun c => absurd c (by decide))
  refine J.iconst (v := (5 : Int32)) d_M_ini_360 (by decide) ?_
  refine J.nop (pc' := 361) rfl ?_
  refine J.iastF (c := 120) (m' := MS_106) d_M_ini_361 ⟨by decide, (Nat.le_of_ble_eq_true rfl)⟩ (by unfold vp_in; decide) rfl ?_
  refine J.iinc 0 (v := (1 : Int32)) (lv := [(1, .int (28 : Int32)), (0, jr (jGk G 148 FS_118) 109)]) d_M_ini_362 rfl (by decide) (by decide) rfl ?_
  refine J.goto 334 d_M_ini_365 rfl ?_
  refine J.iload_n 0 d_M_ini_334 rfl rfl ?_
  refine J.bipush (v := (36 : Int32)) d_M_ini_335 (by decide) ?_
  refine J.icmp_ge 368 d_M_ini_337 rfl (fun c => absurd c (by decide)) (fun _ => ?_)
  refine J.nop (pc' := 340) rfl ?_
  refine J.aload_n 1 d_M_ini_340 rfl rfl ?_
  refine J.getf (c := 109) (v := jr (jGk G 148 FS_118) 120) d_M_ini_341 flc_M_45 ⟨by decide, (Nat.le_of_ble_eq_true rfl), rfl, rfl⟩ rfl ?_
  refine J.iload_n 0 d_M_ini_344 rfl rfl ?_
  refine J.iload_n 0 d_M_ini_345 rfl rfl ?_
  refine J.bipush (v := (6 : Int32)) d_M_ini_346 (by decide) ?_
  refine J.idiv d_M_ini_348 (by decide) ?_
  refine J.nop (pc' := 349) rfl ?_
  refine J.iload_n 0 d_M_ini_349 rfl rfl ?_
  refine J.bipush (v := (6 : Int32)) d_M_ini_350 (by decide) ?_
  refine J.irem d_M_ini_352 (by decide) ?_
  refine J.icmp_ne 360 d_M_ini_353 rfl (fun c => absurd c (by decide)) (fun _ => ?_)
  refine J.iconst (v := (0 : Int32)) d_M_ini_356 (by decide) ?_
  refine J.goto 361 d_M_ini_357 rfl ?_
  refine J.nop (pc' := 361) rfl ?_
  refine J.iastF (c := 120) (m' := MS_107) d_M_ini_361 ⟨by decide, (Nat.le_of_ble_eq_true rfl)⟩ (by unfold vp_in; decide) rfl ?_
  refine J.iinc 0 (v := (1 : Int32)) (lv := [(1, .int (29 : Int32)), (0, jr (jGk G 148 FS_118) 109)]) d_M_ini_362 rfl (by decide) (by decide) rfl ?_
  refine J.goto 334 d_M_ini_365 rfl ?_
  refine J.iload_n 0 d_M_ini_334 rfl rfl ?_
  refine J.bipush (v := (36 : Int32)) d_M_ini_335 (by decide) ?_
  refine J.icmp_ge 368 d_M_ini_337 rfl (fun c => absurd c (by decide)) (fun _ => ?_)
  refine J.nop (pc' := 340) rfl ?_
  refine J.aload_n 1 d_M_ini_340 rfl rfl ?_
  refine J.getf (c := 109) (v := jr (jGk G 148 FS_118) 120) d_M_ini_341 flc_M_45 ⟨by decide, (Nat.le_of_ble_eq_true rfl), rfl, rfl⟩ rfl ?_
  refine J.iload_n 0 d_M_ini_344 rfl rfl ?_
  refine J.iload_n 0 d_M_ini_345 rfl rfl ?_
  refine J.bipush (v := (6 : Int32)) d_M_ini_346 (by decide) ?_
  refine J.idiv d_M_ini_348 (by decide) ?_
  refine J.nop (pc' := 349) rfl ?_
  refine J.iload_n 0 d_M_ini_349 rfl rfl ?_
  refine J.bipush (v := (6 : Int32)) d_M_ini_350 (by decide) ?_
  refine J.irem d_M_ini_352 (by decide) ?_
  refine J.icmp_ne 360 d_M_ini_353 rfl (fun _ => ?_) (fun c => absurd c (by decide))
  refine J.iconst (v := (5 : Int32)) d_M_ini_360 (by decide) ?_
  refine J.iastF (c := 120) (m' := MS_108) d_M_ini_361 ⟨by decide, (Nat.le_of_ble_eq_true rfl)⟩ (by unfold vp_in; decide) rfl ?_
  refine J.nop (pc' := 362) rfl ?_
  refine J.iinc 0 (v := (1 : Int32)) (lv := [(1, .int (30 : Int32)), (0, jr (jGk G 148 FS_118) 109)]) d_M_ini_362 rfl (by decide) (by decide) rfl ?_
  refine J.goto 334 d_M_ini_365 rfl ?_
  refine J.iload_n 0 d_M_ini_334 rfl rfl ?_
  refine J.bipush (v := (36 : Int32)) d_M_ini_335 (by decide) ?_
  refine J.icmp_ge 368 d_M_ini_337 rfl (fun c => absurd c (by decide)) (fun _ => ?_)
  refine J.aload_n 1 d_M_ini_340 rfl rfl ?_
  refine J.nop (pc' := 341) rfl ?_
  refine J.getf (c := 109) (v := jr (jGk G 148 FS_118) 120) d_M_ini_341 flc_M_45 ⟨by decide, (Nat.le_of_ble_eq_true rfl), rfl, rfl⟩ rfl ?_
  refine J.iload_n 0 d_M_ini_344 rfl rfl ?_
  refine J.iload_n 0 d_M_ini_345 rfl rfl ?_
  refine J.bipush (v := (6 : Int32)) d_M_ini_346 (by decide) ?_
  refine J.idiv d_M_ini_348 (by decide) ?_
  refine J.iload_n 0 d_M_ini_349 rfl rfl ?_
  refine J.nop (pc' := 350) rfl ?_
  refine J.bipush (v := (6 : Int32)) d_M_ini_350 (by decide) ?_
  refine J.irem d_M_ini_352 (by decide) ?_
  refine J.icmp_ne 360 d_M_ini_353 rfl (fun _ => ?_) (fun c => absurd c (by decide))
  refine J.iconst (v := (5 : Int32)) d_M_ini_360 (by decide) ?_
  refine J.iastF (c := 120) (m' := MS_109) d_M_ini_361 ⟨by decide, (Nat.le_of_ble_eq_true rfl)⟩ (by unfold vp_in; decide) rfl ?_
  refine J.iinc 0 (v := (1 : Int32)) (lv := [(1, .int (31 : Int32)), (0, jr (jGk G 148 FS_118) 109)]) d_M_ini_362 rfl (by decide) (by decide) rfl ?_
  refine J.nop (pc' := 365) rfl ?_
  refine J.goto 334 d_M_ini_365 rfl ?_
  refine J.iload_n 0 d_M_ini_334 rfl rfl ?_
  refine J.bipush (v := (36 : Int32)) d_M_ini_335 (by decide) ?_
  refine J.icmp_ge 368 d_M_ini_337 rfl (fun c => absurd c (by decide)) (fun _ => ?_)
  refine J.aload_n 1 d_M_ini_340 rfl rfl ?_
  refine J.getf (c := 109) (v := jr (jGk G 148 FS_118) 120) d_M_ini_341 flc_M_45 ⟨by decide, (Nat.le_of_ble_eq_true rfl), rfl, rfl⟩ rfl ?_
  refine J.nop (pc' := 344) rfl ?_
  refine J.iload_n 0 d_M_ini_344 rfl rfl ?_
  refine J.iload_n 0 d_M_ini_345 rfl rfl ?_
  refine J.bipush (v := (6 : Int32)) d_M_ini_346 (by decide) ?_
  refine J.idiv d_M_ini_348 (by decide) ?_
  refine J.iload_n 0 d_M_ini_349 rfl rfl ?_
  refine J.bipush (v := (6 : Int32)) d_M_ini_350 (by decide) ?_
  refine J.nop (pc' := 352) rfl ?_
  refine J.irem d_M_ini_352 (by decide) ?_
  refine J.icmp_ne 360 d_M_ini_353 rfl (fun _ => ?_) (fun c => absurd c (by decide))
  refine J.iconst (v := (5 : Int32)) d_M_ini_360 (by decide) ?_
  refine J.iastF (c := 120) (m' := MS_110) d_M_ini_361 ⟨by decide, (Nat.le_of_ble_eq_true rfl)⟩ (by unfold vp_in; decide) rfl ?_
  refine J.iinc 0 (v := (1 : Int32)) (lv := [(1, .int (32 : Int32)), (0, jr (jGk G 148 FS_118) 109)]) d_M_ini_362 rfl (by decide) (by decide) rfl ?_
  refine J.goto 334 d_M_ini_365 rfl ?_
  refine J.nop (pc' := 334) rfl ?_
  refine J.iload_n 0 d_M_ini_334 rfl rfl ?_
  refine J.bipush (v := (36 : Int32)) d_M_ini_335 (by decide) ?_
  refine J.icmp_ge 368 d_M_ini_337 rfl (fun c => absurd c (by decide)) (fun _ => ?_)
  refine J.aload_n 1 d_M_ini_340 rfl rfl ?_
  refine J.getf (c := 109) (v := jr (jGk G 148 FS_118) 120) d_M_ini_341 flc_M_45 ⟨by decide, (Nat.le_of_ble_eq_true rfl), rfl, rfl⟩ rfl ?_
  refine J.iload_n 0 d_M_ini_344 rfl rfl ?_
  refine J.nop (pc' := 345) rfl ?_
  refine J.iload_n 0 d_M_ini_345 rfl rfl ?_
  refine J.bipush (v := (6 : Int32)) d_M_ini_346 (by decide) ?_
  refine J.idiv d_M_ini_348 (by decide) ?_
  refine J.iload_n 0 d_M_ini_349 rfl rfl ?_
  refine J.bipush (v := (6 : Int32)) d_M_ini_350 (by decide) ?_
  refine J.irem d_M_ini_352 (by decide) ?_
  refine J.nop (pc' := 353) rfl ?_
  refine J.icmp_ne 360 d_M_ini_353 rfl (fun _ => ?_) (fun c => absurd c (by decide))
  refine J.iconst (v := (5 : Int32)) d_M_ini_360 (by decide) ?_
  refine J.iastF (c := 120) (m' := MS_111) d_M_ini_361 ⟨by decide, (Nat.le_of_ble_eq_true rfl)⟩ (by unfold vp_in; decide) rfl ?_
  refine J.iinc 0 (v := (1 : Int32)) (lv := [(1, .int (33 : Int32)), (0, jr (jGk G 148 FS_118) 109)]) d_M_ini_362 rfl (by decide) (by decide) rfl ?_
  refine J.goto 334 d_M_ini_365 rfl ?_
  refine J.iload_n 0 d_M_ini_334 rfl rfl ?_
  refine J.nop (pc' := 335) rfl ?_
  refine J.bipush (v := (36 : Int32)) d_M_ini_335 (by decide) ?_
  refine J.icmp_ge 368 d_M_ini_337 rfl (fun c => absurd c (by decide)) (fun _ => ?_)
  refine J.aload_n 1 d_M_ini_340 rfl rfl ?_
  refine J.getf (c := 109) (v := jr (jGk G 148 FS_118) 120) d_M_ini_341 flc_M_45 ⟨by decide, (Nat.le_of_ble_eq_true rfl), rfl, rfl⟩ rfl ?_
  refine J.iload_n 0 d_M_ini_344 rfl rfl ?_
  refine J.iload_n 0 d_M_ini_345 rfl rfl ?_
  refine J.nop (pc' := 346) rfl ?_
  refine J.bipush (v := (6 : Int32)) d_M_ini_346 (by decide) ?_
  refine J.idiv d_M_ini_348 (by decide) ?_
  refine J.iload_n 0 d_M_ini_349 rfl rfl ?_
  refine J.bipush (v := (6 : Int32)) d_M_ini_350 (by decide) ?_
  refine J.irem d_M_ini_352 (by decide) ?_
  refine J.icmp_ne 360 d_M_ini_353 rfl (fun _ => ?_) (fun c => absurd c (by decide))
  refine J.nop (pc' := 360) rfl ?_
  refine J.iconst (v := (5 : Int32)) d_M_ini_360 (by decide) ?_
  refine J.iastF (c := 120) (m' := MS_112) d_M_ini_361 ⟨by decide, (Nat.le_of_ble_eq_true rfl)⟩ (by unfold vp_in; decide) rfl ?_
  refine J.iinc 0 (v := (1 : Int32)) (lv := [(1, .int (34 : Int32)), (0, jr (jGk G 148 FS_118) 109)]) d_M_ini_362 rfl (by decide) (by decide) rfl ?_
  refine J.goto 334 d_M_ini_365 rfl ?_
  refine J.iload_n 0 d_M_ini_334 rfl rfl ?_
  refine J.bipush (v := (36 : Int32)) d_M_ini_335 (by decide) ?_
  refine J.nop (pc' := 337) rfl ?_
  refine J.icmp_ge 368 d_M_ini_337 rfl (fun c => absurd c (by decide)) (fun _ => ?_)
  refine J.aload_n 1 d_M_ini_340 rfl rfl ?_
  refine J.getf (c := 109) (v := jr (jGk G 148 FS_118) 120) d_M_ini_341 flc_M_45 ⟨by decide, (Nat.le_of_ble_eq_true rfl), rfl, rfl⟩ rfl ?_
  refine J.iload_n 0 d_M_ini_344 rfl rfl ?_
  refine J.iload_n 0 d_M_ini_345 rfl rfl ?_
  refine J.bipush (v := (6 : Int32)) d_M_ini_346 (by decide) ?_
  refine J.nop (pc' := 348) rfl ?_
  refine J.idiv d_M_ini_348 (by decide) ?_
  refine J.iload_n 0 d_M_ini_349 rfl rfl ?_
  refine J.bipush (v := (6 : Int32)) d_M_ini_350 (by decide) ?_
  refine J.irem d_M_ini_352 (by decide) ?_
  refine J.icmp_ne 360 d_M_ini_353 rfl (fun _ => ?_) (fun c => absurd c (by decide))
  refine J.iconst (v := (5 : Int32)) d_M_ini_360 (by decide) ?_
  refine J.nop (pc' := 361) rfl ?_
  refine J.iastF (c := 120) (m' := MS_113) d_M_ini_361 ⟨by decide, (Nat.le_of_ble_eq_true rfl)⟩ (by unfold vp_in; decide) rfl ?_
  refine J.iinc 0 (v := (1 : Int32)) (lv := [(1, .int (35 : Int32)), (0, jr (jGk G 148 FS_118) 109)]) d_M_ini_362 rfl (by decide) (by decide) rfl ?_
  refine J.goto 334 d_M_ini_365 rfl ?_
  refine J.iload_n 0 d_M_ini_334 rfl rfl ?_
  refine J.bipush (v := (36 : Int32)) d_M_ini_335 (by decide) ?_
  refine J.icmp_ge 368 d_M_ini_337 rfl (fun c => absurd c (by decide)) (fun _ => ?_)
  refine J.nop (pc' := 340) rfl ?_
  refine J.aload_n 1 d_M_ini_340 rfl rfl ?_
  refine J.getf (c := 109) (v := jr (jGk G 148 FS_118) 120) d_M_ini_341 flc_M_45 ⟨by decide, (Nat.le_of_ble_eq_true rfl), rfl, rfl⟩ rfl ?_
  refine J.iload_n 0 d_M_ini_344 rfl rfl ?_
  refine J.iload_n 0 d_M_ini_345 rfl rfl ?_
  refine J.bipush (v := (6 : Int32)) d_M_ini_346 (by decide) ?_
  refine J.idiv d_M_ini_348 (by decide) ?_
  refine J.nop (pc' := 349) rfl ?_
  refine J.iload_n 0 d_M_ini_349 rfl rfl ?_
  refine J.bipush (v := (6 : Int32)) d_M_ini_350 (by decide) ?_
  refine J.irem d_M_ini_352 (by decide) ?_
  refine J.icmp_ne 360 d_M_ini_353 rfl (fun c => absurd c (by decide)) (fun _ => ?_)
  refine J.iconst (v := (0 : Int32)) d_M_ini_356 (by decide) ?_
  refine J.goto 361 d_M_ini_357 rfl ?_
  refine J.nop (pc' := 361) rfl ?_
  refine J.iastF (c := 120) (m' := MS_114) d_M_ini_361 ⟨by decide, (Nat.le_of_ble_eq_true rfl)⟩ (by unfold vp_in; decide) rfl ?_
  refine J.iinc 0 (v := (1 : Int32)) (lv := [(1, .int (36 : Int32)), (0, jr (jGk G 148 FS_118) 109)]) d_M_ini_362 rfl (by decide) (by decide) rfl ?_
  refine J.goto 334 d_M_ini_365 rfl ?_
  refine J.iload_n 0 d_M_ini_334 rfl rfl ?_
  refine J.bipush (v := (36 : Int32)) d_M_ini_335 (by decide) ?_
  refine J.icmp_ge 368 d_M_ini_337 rfl (fun _ => ?_) (fun c => absurd c (by decide))
  refine J.nop (pc' := 368) rfl ?_
  refine J.iconst (v := (0 : Int32)) d_M_ini_368 (by decide) ?_
  refine J.istore_n (lv := [(1, .int (0 : Int32)), (0, jr (jGk G 148 FS_118) 109)]) d_M_ini_369 rfl (by decide) rfl ?_
  refine J.iload_n 0 d_M_ini_370 rfl rfl ?_
  refine J.bipush (v := (6 : Int32)) d_M_ini_371 (by decide) ?_
  refine J.icmp_ge 389 d_M_ini_373 rfl (fun c => absurd c (by decide)) (fun _ => ?_)
  refine J.aload_n 1 d_M_ini_376 rfl rfl ?_
  refine J.nop (pc' := 377) rfl ?_
  refine J.getf (c := 109) (v := jr (jGk G 148 FS_118) 116) d_M_ini_377 flc_M_29 ⟨by decide, (Nat.le_of_ble_eq_true rfl), rfl, rfl⟩ rfl ?_
  refine J.iload_n 0 d_M_ini_380 rfl rfl ?_
  refine J.iconst (v := (1 : Int32)) d_M_ini_381 (by decide) ?_
  refine J.iastF (c := 116) (m' := MS_115) d_M_ini_382 ⟨by decide, (Nat.le_of_ble_eq_true rfl)⟩ (by unfold vp_in; decide) rfl ?_
  refine J.iinc 0 (v := (1 : Int32)) (lv := [(1, .int (1 : Int32)), (0, jr (jGk G 148 FS_118) 109)]) d_M_ini_383 rfl (by decide) (by decide) rfl ?_
  refine J.goto 370 d_M_ini_386 rfl ?_
  refine J.nop (pc' := 370) rfl ?_
  refine J.iload_n 0 d_M_ini_370 rfl rfl ?_
  refine J.bipush (v := (6 : Int32)) d_M_ini_371 (by decide) ?_
  refine J.icmp_ge 389 d_M_ini_373 rfl (fun c => absurd c (by decide)) (fun _ => ?_)
  refine J.aload_n 1 d_M_ini_376 rfl rfl ?_
  refine J.getf (c := 109) (v := jr (jGk G 148 FS_118) 116) d_M_ini_377 flc_M_29 ⟨by decide, (Nat.le_of_ble_eq_true rfl), rfl, rfl⟩ rfl ?_
  refine J.iload_n 0 d_M_ini_380 rfl rfl ?_
  refine J.nop (pc' := 381) rfl ?_
  refine J.iconst (v := (1 : Int32)) d_M_ini_381 (by decide) ?_
  refine J.iastF (c := 116) (m' := MS_116) d_M_ini_382 ⟨by decide, (Nat.le_of_ble_eq_true rfl)⟩ (by unfold vp_in; decide) rfl ?_
  refine J.iinc 0 (v := (1 : Int32)) (lv := [(1, .int (2 : Int32)), (0, jr (jGk G 148 FS_118) 109)]) d_M_ini_383 rfl (by decide) (by decide) rfl ?_
  refine J.goto 370 d_M_ini_386 rfl ?_
  refine J.iload_n 0 d_M_ini_370 rfl rfl ?_
  refine J.bipush (v := (6 : Int32)) d_M_ini_371 (by decide) ?_
  refine J.nop (pc' := 373) rfl ?_
  refine J.icmp_ge 389 d_M_ini_373 rfl (fun c => absurd c (by decide)) (fun _ => ?_)
  refine J.aload_n 1 d_M_ini_376 rfl rfl ?_
  refine J.getf (c := 109) (v := jr (jGk G 148 FS_118) 116) d_M_ini_377 flc_M_29 ⟨by decide, (Nat.le_of_ble_eq_true rfl), rfl, rfl⟩ rfl ?_
  refine J.iload_n 0 d_M_ini_380 rfl rfl ?_
  refine J.iconst (v := (1 : Int32)) d_M_ini_381 (by decide) ?_
  refine J.iastF (c := 116) (m' := MS_117) d_M_ini_382 ⟨by decide, (Nat.le_of_ble_eq_true rfl)⟩ (by unfold vp_in; decide) rfl ?_
  refine J.nop (pc' := 383) rfl ?_
  refine J.iinc 0 (v := (1 : Int32)) (lv := [(1, .int (3 : Int32)), (0, jr (jGk G 148 FS_118) 109)]) d_M_ini_383 rfl (by decide) (by decide) rfl ?_
  refine J.goto 370 d_M_ini_386 rfl ?_
  refine J.iload_n 0 d_M_ini_370 rfl rfl ?_
  refine J.bipush (v := (6 : Int32)) d_M_ini_371 (by decide) ?_
  refine J.icmp_ge 389 d_M_ini_373 rfl (fun c => absurd c (by decide)) (fun _ => ?_)
  refine J.aload_n 1 d_M_ini_376 rfl rfl ?_
  refine J.nop (pc' := 377) rfl ?_
  refine J.getf (c := 109) (v := jr (jGk G 148 FS_118) 116) d_M_ini_377 flc_M_29 ⟨by decide, (Nat.le_of_ble_eq_true rfl), rfl, rfl⟩ rfl ?_
  refine J.iload_n 0 d_M_ini_380 rfl rfl ?_
  refine J.iconst (v := (1 : Int32)) d_M_ini_381 (by decide) ?_
  refine J.iastF (c := 116) (m' := MS_118) d_M_ini_382 ⟨by decide, (Nat.le_of_ble_eq_true rfl)⟩ (by unfold vp_in; decide) rfl ?_
  refine J.iinc 0 (v := (1 : Int32)) (lv := [(1, .int (4 : Int32)), (0, jr (jGk G 148 FS_118) 109)]) d_M_ini_383 rfl (by decide) (by decide) rfl ?_
  refine J.goto 370 d_M_ini_386 rfl ?_
  refine J.nop (pc' := 370) rfl ?_
  refine J.iload_n 0 d_M_ini_370 rfl rfl ?_
  refine J.bipush (v := (6 : Int32)) d_M_ini_371 (by decide) ?_
  refine J.icmp_ge 389 d_M_ini_373 rfl (fun c => absurd c (by decide)) (fun _ => ?_)
  refine J.aload_n 1 d_M_ini_376 rfl rfl ?_
  refine J.getf (c := 109) (v := jr (jGk G 148 FS_118) 116) d_M_ini_377 flc_M_29 ⟨by decide, (Nat.le_of_ble_eq_true rfl), rfl, rfl⟩ rfl ?_
  refine J.iload_n 0 d_M_ini_380 rfl rfl ?_
  refine J.nop (pc' := 381) rfl ?_
  refine J.iconst (v := (1 : Int32)) d_M_ini_381 (by decide) ?_
  refine J.iastF (c := 116) (m' := MS_119) d_M_ini_382 ⟨by decide, (Nat.le_of_ble_eq_true rfl)⟩ (by unfold vp_in; decide) rfl ?_
  refine J.iinc 0 (v := (1 : Int32)) (lv := [(1, .int (5 : Int32)), (0, jr (jGk G 148 FS_118) 109)]) d_M_ini_383 rfl (by decide) (by decide) rfl ?_
  refine J.goto 370 d_M_ini_386 rfl ?_
  refine J.iload_n 0 d_M_ini_370 rfl rfl ?_
  refine J.bipush (v := (6 : Int32)) d_M_ini_371 (by decide) ?_
  refine J.nop (pc' := 373) rfl ?_
  refine J.icmp_ge 389 d_M_ini_373 rfl (fun c => absurd c (by decide)) (fun _ => ?_)
  refine J.aload_n 1 d_M_ini_376 rfl rfl ?_
  refine J.getf (c := 109) (v := jr (jGk G 148 FS_118) 116) d_M_ini_377 flc_M_29 ⟨by decide, (Nat.le_of_ble_eq_true rfl), rfl, rfl⟩ rfl ?_
  refine J.iload_n 0 d_M_ini_380 rfl rfl ?_
  refine J.iconst (v := (1 : Int32)) d_M_ini_381 (by decide) ?_
  refine J.iastF (c := 116) (m' := MS_120) d_M_ini_382 ⟨by decide, (Nat.le_of_ble_eq_true rfl)⟩ (by unfold vp_in; decide) rfl ?_
  refine J.nop (pc' := 383) rfl ?_
  refine J.iinc 0 (v := (1 : Int32)) (lv := [(1, .int (6 : Int32)), (0, jr (jGk G 148 FS_118) 109)]) d_M_ini_383 rfl (by decide) (by decide) rfl ?_
  refine J.goto 370 d_M_ini_386 rfl ?_
  refine J.iload_n 0 d_M_ini_370 rfl rfl ?_
  refine J.bipush (v := (6 : Int32)) d_M_ini_371 (by decide) ?_
  refine J.icmp_ge 389 d_M_ini_373 rfl (fun _ => ?_) (fun c => absurd c (by decide))
  exact J.vret d_M_ini_389 rfl rfl
