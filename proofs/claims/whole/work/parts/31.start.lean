/-! the state at the law's start -/
def nw : List Cond := flatC (.and given_1 narrow_1)
theorem nw_fam {N : Nat} {f : Nat → Cond} (is : List Nat) (h : (List.range N).map f = is.filterMap (fun i => nw[i]?)) : ∀ j, j < N → f j ∈ nw := fun j hj => by
  have h1 : f j ∈ (List.range N).map f := List.mem_map.mpr ⟨j, List.mem_range.mpr hj, rfl⟩
  rw [h] at h1
  obtain ⟨i, -, hi⟩ := List.mem_filterMap.mp h1
  exact List.mem_of_getElem? hi
theorem tw_fam {N : Nat} {f : Nat → Cond} (is : List Nat) (h : (List.range N).map f = is.filterMap (fun i => tables_1[i]?)) : ∀ j, j < N → f j ∈ lw_tbl := fun j hj => by
  have h1 : f j ∈ (List.range N).map f := List.mem_map.mpr ⟨j, List.mem_range.mpr hj, rfl⟩
  rw [h] at h1
  obtain ⟨i, -, hi⟩ := List.mem_filterMap.mp h1
  exact List.mem_append_right _ (List.mem_of_getElem? hi)
theorem ne_ex : ∀ j, j < 33 → (fun i => Cond.exactly (.static "CitingLetters$Token" (jtokN.getD i "") "LCitingLetters$Token;") "CitingLetters$Token") j ∈ nw := nw_fam [4, 57, 9, 67, 82, 92, 62, 72, 77, 97, 107, 102, 112, 117, 122, 165, 170, 175, 180, 185, 190, 195, 200, 205, 87, 210, 215, 220, 225, 230, 235, 240, 245] (by decide +kernel)
theorem ne_ord : ∀ j, j < 33 → (fun i => Cond.eq (.field (.static "CitingLetters$Token" (jtokN.getD i "") "LCitingLetters$Token;") "java/lang/Enum" "ordinal" "I") (.int (jtokO.getD i 0))) j ∈ nw := nw_fam [5, 58, 10, 68, 83, 93, 63, 73, 78, 98, 108, 103, 113, 118, 123, 166, 171, 176, 181, 186, 191, 196, 201, 206, 88, 211, 216, 221, 226, 231, 236, 241, 246] (by decide +kernel)
theorem ne_part : ∀ j, j < 33 → (fun i => Cond.eq (.field (.static "CitingLetters$Token" (jtokN.getD i "") "LCitingLetters$Token;") "CitingLetters$Token" "part" "I") (.int (jtokP.getD i 0))) j ∈ nw := nw_fam [7, 60, 12, 70, 85, 95, 65, 75, 80, 100, 110, 105, 115, 120, 125, 168, 173, 178, 183, 188, 193, 198, 203, 208, 90, 213, 218, 223, 228, 233, 238, 243, 248] (by decide +kernel)
theorem ne_rank : ∀ j, j < 33 → (fun i => Cond.eq (.field (.static "CitingLetters$Token" (jtokN.getD i "") "LCitingLetters$Token;") "CitingLetters$Token" "rank" "I") (.int (jtokR.getD i 0))) j ∈ nw := nw_fam [8, 61, 13, 71, 86, 96, 66, 76, 81, 101, 111, 106, 116, 121, 126, 169, 174, 179, 184, 189, 194, 199, 204, 209, 91, 214, 219, 224, 229, 234, 239, 244, 249] (by decide +kernel)
theorem ne_sp : ∀ j, j < 33 → (fun i => Cond.eq (.field (.static "CitingLetters$Token" (jtokN.getD i "") "LCitingLetters$Token;") "CitingLetters$Token" "spelling" "Ljava/lang/String;") (.string (jstL.getD (jspL.getD i 0) ("", 0, "")).1 (jstL.getD (jspL.getD i 0) ("", 0, "")).2.1)) j ∈ nw := nw_fam [6, 59, 11, 69, 84, 94, 64, 74, 79, 99, 109, 104, 114, 119, 124, 167, 172, 177, 182, 187, 192, 197, 202, 207, 89, 212, 217, 222, 227, 232, 237, 242, 247] (by decide +kernel)
theorem ne_each : ∀ j, j < 33 → (fun j => Cond.eq (.elem (.static "CitingLetters$Token" "EACH" "[LCitingLetters$Token;") (.int (Int32.ofNat j))) (.static "CitingLetters$Token" (jtokN.getD j "") "LCitingLetters$Token;")) j ∈ nw := nw_fam [19, 20, 21, 22, 23, 24, 25, 26, 27, 28, 29, 30, 31, 32, 33, 34, 35, 36, 37, 38, 39, 40, 41, 42, 43, 44, 45, 46, 47, 48, 49, 50, 51] (by decide +kernel)
theorem ne_sw : ∀ j, j < 33 → (fun j => Cond.eq (.elem (.static "CitingLetters$1" "$SwitchMap$CitingLetters$Token" "[I") (.int (Int32.ofNat j))) (.int (jswL.getD j 0))) j ∈ nw := nw_fam [130, 131, 132, 133, 134, 135, 136, 137, 138, 139, 140, 141, 142, 143, 144, 145, 146, 147, 148, 149, 150, 151, 152, 153, 154, 155, 156, 157, 158, 159, 160, 161, 162] (by decide +kernel)
theorem ne_each0 : ∀ j, j < 1 → (fun _ => Cond.arrayOf (.static "CitingLetters$Token" "EACH" "[LCitingLetters$Token;") (.object "CitingLetters$Token")) j ∈ nw := nw_fam [16] (by decide +kernel)
theorem ne_each1 : ∀ j, j < 1 → (fun _ => Cond.eq (.length (.static "CitingLetters$Token" "EACH" "[LCitingLetters$Token;")) (.int 33)) j ∈ nw := nw_fam [17] (by decide +kernel)
theorem ne_sw0 : ∀ j, j < 1 → (fun _ => Cond.arrayOf (.static "CitingLetters$1" "$SwitchMap$CitingLetters$Token" "[I") .int) j ∈ nw := nw_fam [128] (by decide +kernel)
theorem ne_sw1 : ∀ j, j < 1 → (fun _ => Cond.eq (.length (.static "CitingLetters$1" "$SwitchMap$CitingLetters$Token" "[I")) (.int 33)) j ∈ nw := nw_fam [129] (by decide +kernel)
theorem ne_cs : ∀ j, j < 1 → (fun _ => Cond.eq (.static "java/lang/String" "COMPACT_STRINGS" "Z") (.int 1)) j ∈ nw := nw_fam [52] (by decide +kernel)
theorem ne_sf : ∀ j, j < 1 → (fun _ => Cond.isRef (.static "jdk/internal/util/Preconditions" "SIOOBE_FORMATTER" "Ljava/util/function/BiFunction;")) j ∈ nw := nw_fam [53] (by decide +kernel)
theorem ne_s0 : ∀ j, j < 34 → (fun i => Cond.exactly (.string (jstL.getD i ("", 0, "")).1 (jstL.getD i ("", 0, "")).2.1) "java/lang/String") j ∈ nw := nw_fam [276, 294, 323, 423, 427, 435, 440, 450, 459, 464, 471, 476, 482, 491, 499, 508, 519, 527, 535, 543, 550, 559, 566, 574, 582, 588, 595, 600, 606, 611, 617, 623, 628, 633] (by decide +kernel)
theorem ne_s1 : ∀ j, j < 34 → (fun i => Cond.eq (.field (.string (jstL.getD i ("", 0, "")).1 (jstL.getD i ("", 0, "")).2.1) "java/lang/String" "coder" "B") (.int 0)) j ∈ nw := nw_fam [277, 295, 324, 424, 428, 436, 441, 451, 460, 465, 472, 477, 483, 492, 500, 509, 520, 528, 536, 544, 551, 560, 567, 575, 583, 589, 596, 601, 607, 612, 618, 624, 629, 634] (by decide +kernel)
theorem ne_s2 : ∀ j, j < 34 → (fun i => Cond.arrayOf (.field (.string (jstL.getD i ("", 0, "")).1 (jstL.getD i ("", 0, "")).2.1) "java/lang/String" "value" "[B") .byte) j ∈ nw := nw_fam [278, 296, 325, 425, 429, 437, 442, 452, 461, 466, 473, 478, 484, 493, 501, 510, 521, 529, 537, 545, 552, 561, 568, 576, 584, 590, 597, 602, 608, 613, 619, 625, 630, 635] (by decide +kernel)
theorem ne_s3 : ∀ j, j < 34 → (fun i => Cond.eq (.length (.field (.string (jstL.getD i ("", 0, "")).1 (jstL.getD i ("", 0, "")).2.1) "java/lang/String" "value" "[B")) (.int (Int32.ofNat (jstN.getD i 0)))) j ∈ nw := nw_fam [279, 297, 326, 426, 430, 438, 443, 453, 462, 467, 474, 479, 485, 494, 502, 511, 522, 530, 538, 546, 553, 562, 569, 577, 585, 591, 598, 603, 609, 614, 620, 626, 631, 636] (by decide +kernel)
theorem ne_b0 : ∀ j, j < 14 → (fun j => Cond.eq (.elem (.field (.string "CitingLetters" 167) "java/lang/String" "value" "[B") (.int (Int32.ofNat j))) (.int ((jstB.getD 0 []).getD j 0))) j ∈ nw := nw_fam [280, 281, 282, 283, 284, 285, 286, 287, 288, 289, 290, 291, 292, 293] (by decide +kernel)
theorem ne_b1 : ∀ j, j < 25 → (fun j => Cond.eq (.elem (.field (.string "CitingLetters" 192) "java/lang/String" "value" "[B") (.int (Int32.ofNat j))) (.int ((jstB.getD 1 []).getD j 0))) j ∈ nw := nw_fam [298, 299, 300, 301, 302, 303, 304, 305, 306, 307, 308, 309, 310, 311, 312, 313, 314, 315, 316, 317, 318, 319, 320, 321, 322] (by decide +kernel)
theorem ne_b2 : ∀ j, j < 96 → (fun j => Cond.eq (.elem (.field (.string "CitingLettersModel" 167) "java/lang/String" "value" "[B") (.int (Int32.ofNat j))) (.int ((jstB.getD 2 []).getD j 0))) j ∈ nw := nw_fam [327, 328, 329, 330, 331, 332, 333, 334, 335, 336, 337, 338, 339, 340, 341, 342, 343, 344, 345, 346, 347, 348, 349, 350, 351, 352, 353, 354, 355, 356, 357, 358, 359, 360, 361, 362, 363, 364, 365, 366, 367, 368, 369, 370, 371, 372, 373, 374, 375, 376, 377, 378, 379, 380, 381, 382, 383, 384, 385, 386, 387, 388, 389, 390, 391, 392, 393, 394, 395, 396, 397, 398, 399, 400, 401, 402, 403, 404, 405, 406, 407, 408, 409, 410, 411, 412, 413, 414, 415, 416, 417, 418, 419, 420, 421, 422] (by decide +kernel)
theorem ne_b4 : ∀ j, j < 4 → (fun j => Cond.eq (.elem (.field (.string "CitingLetters$Token" 151) "java/lang/String" "value" "[B") (.int (Int32.ofNat j))) (.int ((jstB.getD 4 []).getD j 0))) j ∈ nw := nw_fam [431, 432, 433, 434] (by decide +kernel)
theorem ne_b5 : ∀ j, j < 1 → (fun j => Cond.eq (.elem (.field (.string "CitingLetters$Token" 142) "java/lang/String" "value" "[B") (.int (Int32.ofNat j))) (.int ((jstB.getD 5 []).getD j 0))) j ∈ nw := nw_fam [439] (by decide +kernel)
theorem ne_b6 : ∀ j, j < 6 → (fun j => Cond.eq (.elem (.field (.string "CitingLetters$Token" 154) "java/lang/String" "value" "[B") (.int (Int32.ofNat j))) (.int ((jstB.getD 6 []).getD j 0))) j ∈ nw := nw_fam [444, 445, 446, 447, 448, 449] (by decide +kernel)
theorem ne_b7 : ∀ j, j < 5 → (fun j => Cond.eq (.elem (.field (.string "CitingLetters$Token" 157) "java/lang/String" "value" "[B") (.int (Int32.ofNat j))) (.int ((jstB.getD 7 []).getD j 0))) j ∈ nw := nw_fam [454, 455, 456, 457, 458] (by decide +kernel)
theorem ne_b8 : ∀ j, j < 1 → (fun j => Cond.eq (.elem (.field (.string "CitingLetters$Token" 145) "java/lang/String" "value" "[B") (.int (Int32.ofNat j))) (.int ((jstB.getD 8 []).getD j 0))) j ∈ nw := nw_fam [463] (by decide +kernel)
theorem ne_b9 : ∀ j, j < 3 → (fun j => Cond.eq (.elem (.field (.string "CitingLetters$Token" 205) "java/lang/String" "value" "[B") (.int (Int32.ofNat j))) (.int ((jstB.getD 9 []).getD j 0))) j ∈ nw := nw_fam [468, 469, 470] (by decide +kernel)
theorem ne_b10 : ∀ j, j < 1 → (fun j => Cond.eq (.elem (.field (.string "CitingLetters$Token" 148) "java/lang/String" "value" "[B") (.int (Int32.ofNat j))) (.int ((jstB.getD 10 []).getD j 0))) j ∈ nw := nw_fam [475] (by decide +kernel)
theorem ne_b11 : ∀ j, j < 2 → (fun j => Cond.eq (.elem (.field (.string "CitingLetters$Token" 160) "java/lang/String" "value" "[B") (.int (Int32.ofNat j))) (.int ((jstB.getD 11 []).getD j 0))) j ∈ nw := nw_fam [480, 481] (by decide +kernel)
theorem ne_b12 : ∀ j, j < 5 → (fun j => Cond.eq (.elem (.field (.string "CitingLetters$Token" 166) "java/lang/String" "value" "[B") (.int (Int32.ofNat j))) (.int ((jstB.getD 12 []).getD j 0))) j ∈ nw := nw_fam [486, 487, 488, 489, 490] (by decide +kernel)
theorem ne_b13 : ∀ j, j < 4 → (fun j => Cond.eq (.elem (.field (.string "CitingLetters$Token" 163) "java/lang/String" "value" "[B") (.int (Int32.ofNat j))) (.int ((jstB.getD 13 []).getD j 0))) j ∈ nw := nw_fam [495, 496, 497, 498] (by decide +kernel)
theorem ne_b14 : ∀ j, j < 5 → (fun j => Cond.eq (.elem (.field (.string "CitingLetters$Token" 169) "java/lang/String" "value" "[B") (.int (Int32.ofNat j))) (.int ((jstB.getD 14 []).getD j 0))) j ∈ nw := nw_fam [503, 504, 505, 506, 507] (by decide +kernel)
theorem ne_b15 : ∀ j, j < 7 → (fun j => Cond.eq (.elem (.field (.string "CitingLetters$Token" 172) "java/lang/String" "value" "[B") (.int (Int32.ofNat j))) (.int ((jstB.getD 15 []).getD j 0))) j ∈ nw := nw_fam [512, 513, 514, 515, 516, 517, 518] (by decide +kernel)
theorem ne_b16 : ∀ j, j < 4 → (fun j => Cond.eq (.elem (.field (.string "CitingLetters$Token" 175) "java/lang/String" "value" "[B") (.int (Int32.ofNat j))) (.int ((jstB.getD 16 []).getD j 0))) j ∈ nw := nw_fam [523, 524, 525, 526] (by decide +kernel)
theorem ne_b17 : ∀ j, j < 4 → (fun j => Cond.eq (.elem (.field (.string "CitingLetters$Token" 178) "java/lang/String" "value" "[B") (.int (Int32.ofNat j))) (.int ((jstB.getD 17 []).getD j 0))) j ∈ nw := nw_fam [531, 532, 533, 534] (by decide +kernel)
theorem ne_b18 : ∀ j, j < 4 → (fun j => Cond.eq (.elem (.field (.string "CitingLetters$Token" 181) "java/lang/String" "value" "[B") (.int (Int32.ofNat j))) (.int ((jstB.getD 18 []).getD j 0))) j ∈ nw := nw_fam [539, 540, 541, 542] (by decide +kernel)
theorem ne_b19 : ∀ j, j < 3 → (fun j => Cond.eq (.elem (.field (.string "CitingLetters$Token" 184) "java/lang/String" "value" "[B") (.int (Int32.ofNat j))) (.int ((jstB.getD 19 []).getD j 0))) j ∈ nw := nw_fam [547, 548, 549] (by decide +kernel)
theorem ne_b20 : ∀ j, j < 5 → (fun j => Cond.eq (.elem (.field (.string "CitingLetters$Token" 187) "java/lang/String" "value" "[B") (.int (Int32.ofNat j))) (.int ((jstB.getD 20 []).getD j 0))) j ∈ nw := nw_fam [554, 555, 556, 557, 558] (by decide +kernel)
theorem ne_b21 : ∀ j, j < 3 → (fun j => Cond.eq (.elem (.field (.string "CitingLetters$Token" 190) "java/lang/String" "value" "[B") (.int (Int32.ofNat j))) (.int ((jstB.getD 21 []).getD j 0))) j ∈ nw := nw_fam [563, 564, 565] (by decide +kernel)
theorem ne_b22 : ∀ j, j < 4 → (fun j => Cond.eq (.elem (.field (.string "CitingLetters$Token" 193) "java/lang/String" "value" "[B") (.int (Int32.ofNat j))) (.int ((jstB.getD 22 []).getD j 0))) j ∈ nw := nw_fam [570, 571, 572, 573] (by decide +kernel)
theorem ne_b23 : ∀ j, j < 4 → (fun j => Cond.eq (.elem (.field (.string "CitingLetters$Token" 196) "java/lang/String" "value" "[B") (.int (Int32.ofNat j))) (.int ((jstB.getD 23 []).getD j 0))) j ∈ nw := nw_fam [578, 579, 580, 581] (by decide +kernel)
theorem ne_b24 : ∀ j, j < 2 → (fun j => Cond.eq (.elem (.field (.string "CitingLetters$Token" 199) "java/lang/String" "value" "[B") (.int (Int32.ofNat j))) (.int ((jstB.getD 24 []).getD j 0))) j ∈ nw := nw_fam [586, 587] (by decide +kernel)
theorem ne_b25 : ∀ j, j < 3 → (fun j => Cond.eq (.elem (.field (.string "CitingLetters$Token" 202) "java/lang/String" "value" "[B") (.int (Int32.ofNat j))) (.int ((jstB.getD 25 []).getD j 0))) j ∈ nw := nw_fam [592, 593, 594] (by decide +kernel)
theorem ne_b26 : ∀ j, j < 1 → (fun j => Cond.eq (.elem (.field (.string "CitingLetters$Token" 208) "java/lang/String" "value" "[B") (.int (Int32.ofNat j))) (.int ((jstB.getD 26 []).getD j 0))) j ∈ nw := nw_fam [599] (by decide +kernel)
theorem ne_b27 : ∀ j, j < 2 → (fun j => Cond.eq (.elem (.field (.string "CitingLetters$Token" 211) "java/lang/String" "value" "[B") (.int (Int32.ofNat j))) (.int ((jstB.getD 27 []).getD j 0))) j ∈ nw := nw_fam [604, 605] (by decide +kernel)
theorem ne_b28 : ∀ j, j < 1 → (fun j => Cond.eq (.elem (.field (.string "CitingLetters$Token" 214) "java/lang/String" "value" "[B") (.int (Int32.ofNat j))) (.int ((jstB.getD 28 []).getD j 0))) j ∈ nw := nw_fam [610] (by decide +kernel)
theorem ne_b29 : ∀ j, j < 2 → (fun j => Cond.eq (.elem (.field (.string "CitingLetters$Token" 217) "java/lang/String" "value" "[B") (.int (Int32.ofNat j))) (.int ((jstB.getD 29 []).getD j 0))) j ∈ nw := nw_fam [615, 616] (by decide +kernel)
theorem ne_b30 : ∀ j, j < 2 → (fun j => Cond.eq (.elem (.field (.string "CitingLetters$Token" 220) "java/lang/String" "value" "[B") (.int (Int32.ofNat j))) (.int ((jstB.getD 30 []).getD j 0))) j ∈ nw := nw_fam [621, 622] (by decide +kernel)
theorem ne_b31 : ∀ j, j < 1 → (fun j => Cond.eq (.elem (.field (.string "CitingLetters$Token" 223) "java/lang/String" "value" "[B") (.int (Int32.ofNat j))) (.int ((jstB.getD 31 []).getD j 0))) j ∈ nw := nw_fam [627] (by decide +kernel)
theorem ne_b32 : ∀ j, j < 1 → (fun j => Cond.eq (.elem (.field (.string "CitingLetters$Token" 226) "java/lang/String" "value" "[B") (.int (Int32.ofNat j))) (.int ((jstB.getD 32 []).getD j 0))) j ∈ nw := nw_fam [632] (by decide +kernel)
theorem ne_b33 : ∀ j, j < 1 → (fun j => Cond.eq (.elem (.field (.string "CitingLetters$Token" 229) "java/lang/String" "value" "[B") (.int (Int32.ofNat j))) (.int ((jstB.getD 33 []).getD j 0))) j ∈ nw := nw_fam [637] (by decide +kernel)
theorem ne_b : ∀ i, i < 34 → ∀ j, j < jstN.getD i 0 → Cond.eq (.elem (.field (.string (jstL.getD i ("", 0, "")).1 (jstL.getD i ("", 0, "")).2.1) "java/lang/String" "value" "[B") (.int (Int32.ofNat j))) (.int ((jstB.getD i []).getD j 0)) ∈ nw := fun i hi => match i, hi with
  | 0, _ => ne_b0
  | 1, _ => ne_b1
  | 2, _ => ne_b2
  | 3, _ => fun j hj => absurd hj (Nat.not_lt_zero j)
  | 4, _ => ne_b4
  | 5, _ => ne_b5
  | 6, _ => ne_b6
  | 7, _ => ne_b7
  | 8, _ => ne_b8
  | 9, _ => ne_b9
  | 10, _ => ne_b10
  | 11, _ => ne_b11
  | 12, _ => ne_b12
  | 13, _ => ne_b13
  | 14, _ => ne_b14
  | 15, _ => ne_b15
  | 16, _ => ne_b16
  | 17, _ => ne_b17
  | 18, _ => ne_b18
  | 19, _ => ne_b19
  | 20, _ => ne_b20
  | 21, _ => ne_b21
  | 22, _ => ne_b22
  | 23, _ => ne_b23
  | 24, _ => ne_b24
  | 25, _ => ne_b25
  | 26, _ => ne_b26
  | 27, _ => ne_b27
  | 28, _ => ne_b28
  | 29, _ => ne_b29
  | 30, _ => ne_b30
  | 31, _ => ne_b31
  | 32, _ => ne_b32
  | 33, _ => ne_b33
  | _ + 34, h => absurd h (by omega)
theorem te_lay : ∀ j, j < 33 → (fun i => Cond.laysStatic "CitingLetters$Token" (jtokN.getD i "") "LCitingLetters$Token;") j ∈ lw_tbl := tw_fam [101, 547, 469, 582, 609, 625, 561, 589, 591, 643, 798, 796, 808, 811, 814, 1913, 1914, 1915, 1916, 1917, 1918, 1919, 1920, 1921, 619, 1922, 1923, 1924, 1925, 1926, 1927, 1928, 1929] (by decide +kernel)
theorem te_leach : ∀ j, j < 1 → (fun _ => Cond.laysStatic "CitingLetters$Token" "EACH" "[LCitingLetters$Token;") j ∈ lw_tbl := tw_fam [493] (by decide +kernel)
theorem te_ieach : ∀ j, j < 1 → (fun _ => Cond.initialized "CitingLetters$Token") j ∈ lw_tbl := tw_fam [5] (by decide +kernel)
theorem te_lsw : ∀ j, j < 1 → (fun _ => Cond.laysStatic "CitingLetters$1" "$SwitchMap$CitingLetters$Token" "[I") j ∈ lw_tbl := tw_fam [845] (by decide +kernel)
theorem te_isw : ∀ j, j < 1 → (fun _ => Cond.initialized "CitingLetters$1") j ∈ lw_tbl := tw_fam [21] (by decide +kernel)
theorem te_lcs : ∀ j, j < 1 → (fun _ => Cond.laysStatic "java/lang/String" "COMPACT_STRINGS" "Z") j ∈ lw_tbl := tw_fam [507] (by decide +kernel)
theorem te_ics : ∀ j, j < 1 → (fun _ => Cond.initialized "java/lang/String") j ∈ lw_tbl := tw_fam [15] (by decide +kernel)
theorem te_lsf : ∀ j, j < 1 → (fun _ => Cond.laysStatic "jdk/internal/util/Preconditions" "SIOOBE_FORMATTER" "Ljava/util/function/BiFunction;") j ∈ lw_tbl := tw_fam [523] (by decide +kernel)
theorem te_isf : ∀ j, j < 1 → (fun _ => Cond.initialized "jdk/internal/util/Preconditions") j ∈ lw_tbl := tw_fam [17] (by decide +kernel)
theorem te_sr : ∀ j, j < 3 → (fun i => Cond.stringRef (jstL.getD i ("", 0, "")).1 (jstL.getD i ("", 0, "")).2.1 (jstL.getD i ("", 0, "")).2.2) j ∈ lw_tbl := tw_fam [1218, 1254, 1508] (by decide +kernel)
theorem te_ai : ∀ j, j < 1 → (fun _ => Cond.arrayClass .int) j ∈ lw_tbl := tw_fam [92] (by decide +kernel)
theorem te_az : ∀ j, j < 1 → (fun _ => Cond.arrayClass .boolean) j ∈ lw_tbl := tw_fam [93] (by decide +kernel)
theorem te_al : ∀ j, j < 1 → (fun _ => Cond.arrayClass .long) j ∈ lw_tbl := tw_fam [1886] (by decide +kernel)
theorem te_oq : ∀ j, j < 1 → (fun _ => Cond.arrayOver (.object "CitingLetters$Token")) j ∈ lw_tbl := tw_fam [42] (by decide +kernel)
theorem te_oi : ∀ j, j < 1 → (fun _ => Cond.arrayOver (.array .int)) j ∈ lw_tbl := tw_fam [259] (by decide +kernel)
theorem te_cl : ∀ (c : Nat) (q : vw_C), jcl[c]? = some q → (∃ n, Cond.instantiable q.1 n ∈ lw_tbl) ∧ ∀ w ∈ u_ws q.1 q.2.1 q.2.2, w ∈ lw_tbl := fun c q h => match c, h with
  | 0, h => by cases h; exact ⟨⟨13, (List.mem_filter.mp (jt_1 28 rfl rfl)).1⟩, fun w hw => (List.mem_filter.mp (iw_C w hw)).1⟩
  | 1, h => by cases h; exact ⟨⟨13, (List.mem_filter.mp (jt_1 36 rfl rfl)).1⟩, fun w hw => (List.mem_filter.mp (iw_H w hw)).1⟩
  | 2, h => by cases h; exact ⟨⟨13, (List.mem_filter.mp (jt_1 95 rfl rfl)).1⟩, fun w hw => (List.mem_filter.mp (iw_R w hw)).1⟩
  | 3, h => by cases h; exact ⟨⟨6, (List.mem_filter.mp (jt_1 104 rfl rfl)).1⟩, fun w hw => (List.mem_filter.mp (iw_S w hw)).1⟩
  | 4, h => by cases h; exact ⟨⟨17, (List.mem_filter.mp (jt_1 176 rfl rfl)).1⟩, fun w hw => (List.mem_filter.mp (iw_L w hw)).1⟩
  | 5, h => by cases h; exact ⟨⟨11, (List.mem_filter.mp (jt_2 13 rfl rfl)).1⟩, fun w hw => (List.mem_filter.mp (iw_P w hw)).1⟩
  | 6, h => by cases h; exact ⟨⟨5, (List.mem_filter.mp (jt_2 61 rfl rfl)).1⟩, fun w hw => (List.mem_filter.mp (iw_D w hw)).1⟩
  | 7, h => by cases h; exact ⟨⟨2, (List.mem_filter.mp (jt_2 88 rfl rfl)).1⟩, fun w hw => (List.mem_filter.mp (iw_U w hw)).1⟩
  | 8, h => by cases h; exact ⟨⟨5, (List.mem_filter.mp (jt_2 101 rfl rfl)).1⟩, fun w hw => (List.mem_filter.mp (iw_N w hw)).1⟩
  | 9, h => by cases h; exact ⟨⟨10, (List.mem_filter.mp (jt_2 123 rfl rfl)).1⟩, fun w hw => (List.mem_filter.mp (iw_O w hw)).1⟩
  | 10, h => by cases h; exact ⟨⟨71, (List.mem_filter.mp (jt_6 62 rfl rfl)).1⟩, fun w hw => (List.mem_filter.mp (iw_M w hw)).1⟩
  | _ + 11, h => by cases h
