def strO : List (String × Nat) := [("LoatheMatch$Reader", 224), ("LoatheMatch$Reader", 74), ("LoatheMatch$Reader", 126), ("LoatheMatch$Reader", 83), ("LoatheMatch$Reader", 134), ("LoatheMatch$Reader", 144), ("LoatheMatch$Reader", 150), ("LoatheMatch$Reader", 88), ("LoatheMatch$Reader", 191), ("LoatheMatch$Reader", 195), ("LoatheMatch$Reader", 197), ("LoatheMatch$Reader", 199), ("LoatheMatch$Reader", 201), ("LoatheMatch$Reader", 203), ("LoatheMatch$Reader", 205), ("LoatheMatch$Reader", 98), ("LoatheMatch$Reader", 170), ("LoatheMatch$Reader", 168), ("LoatheMatch$Reader", 159), ("LoatheMatch$Reader", 106), ("LoatheMatch$Reader", 113), ("LoatheMatchModel", 77)]
def tmS (i : Nat) : Term := Term.string (strO.getD i ("", 0)).1 (strO.getD i ("", 0)).2
def gvC : List Cond := flatC (Jvm.Cond.and given_1 narrow_1)
theorem gv_ex : ∀ i, i < 22 → Cond.exactly (tmS i) "java/lang/String" ∈ gvC := by decide +kernel
theorem gv_co : ∀ i, i < 22 → Cond.eq (.field (tmS i) "java/lang/String" "coder" "B") (.int 0) ∈ gvC := by decide +kernel
theorem gv_ar : ∀ i, i < 22 → Cond.arrayOf (.field (tmS i) "java/lang/String" "value" "[B") .byte ∈ gvC := by decide +kernel
theorem gv_le : ∀ i, i < 22 → Cond.eq (.length (.field (tmS i) "java/lang/String" "value" "[B")) (.int (Int32.ofNat (strL.getD i 0))) ∈ gvC := by decide +kernel
theorem gv_el0 : ∀ j, j < 12 → gvC[52 + j]? = some (Cond.eq (.elem (.field (tmS 0) "java/lang/String" "value" "[B") (.int (Int32.ofNat j))) (.int ((strB.getD 0 []).getD j 0))) := by decide +kernel
theorem gv_el1 : ∀ j, j < 5 → gvC[68 + j]? = some (Cond.eq (.elem (.field (tmS 1) "java/lang/String" "value" "[B") (.int (Int32.ofNat j))) (.int ((strB.getD 1 []).getD j 0))) := by decide +kernel
theorem gv_el2 : ∀ j, j < 5 → gvC[78 + j]? = some (Cond.eq (.elem (.field (tmS 2) "java/lang/String" "value" "[B") (.int (Int32.ofNat j))) (.int ((strB.getD 2 []).getD j 0))) := by decide +kernel
theorem gv_el3 : ∀ j, j < 6 → gvC[89 + j]? = some (Cond.eq (.elem (.field (tmS 3) "java/lang/String" "value" "[B") (.int (Int32.ofNat j))) (.int ((strB.getD 3 []).getD j 0))) := by decide +kernel
theorem gv_el4 : ∀ j, j < 3 → gvC[102 + j]? = some (Cond.eq (.elem (.field (tmS 4) "java/lang/String" "value" "[B") (.int (Int32.ofNat j))) (.int ((strB.getD 4 []).getD j 0))) := by decide +kernel
theorem gv_el5 : ∀ j, j < 2 → gvC[113 + j]? = some (Cond.eq (.elem (.field (tmS 5) "java/lang/String" "value" "[B") (.int (Int32.ofNat j))) (.int ((strB.getD 5 []).getD j 0))) := by decide +kernel
theorem gv_el6 : ∀ j, j < 7 → gvC[124 + j]? = some (Cond.eq (.elem (.field (tmS 6) "java/lang/String" "value" "[B") (.int (Int32.ofNat j))) (.int ((strB.getD 6 []).getD j 0))) := by decide +kernel
theorem gv_el7 : ∀ j, j < 4 → gvC[141 + j]? = some (Cond.eq (.elem (.field (tmS 7) "java/lang/String" "value" "[B") (.int (Int32.ofNat j))) (.int ((strB.getD 7 []).getD j 0))) := by decide +kernel
theorem gv_el8 : ∀ j, j < 6 → gvC[156 + j]? = some (Cond.eq (.elem (.field (tmS 8) "java/lang/String" "value" "[B") (.int (Int32.ofNat j))) (.int ((strB.getD 8 []).getD j 0))) := by decide +kernel
theorem gv_el9 : ∀ j, j < 4 → gvC[174 + j]? = some (Cond.eq (.elem (.field (tmS 9) "java/lang/String" "value" "[B") (.int (Int32.ofNat j))) (.int ((strB.getD 9 []).getD j 0))) := by decide +kernel
theorem gv_el10 : ∀ j, j < 6 → gvC[191 + j]? = some (Cond.eq (.elem (.field (tmS 10) "java/lang/String" "value" "[B") (.int (Int32.ofNat j))) (.int ((strB.getD 10 []).getD j 0))) := by decide +kernel
theorem gv_el11 : ∀ j, j < 5 → gvC[211 + j]? = some (Cond.eq (.elem (.field (tmS 11) "java/lang/String" "value" "[B") (.int (Int32.ofNat j))) (.int ((strB.getD 11 []).getD j 0))) := by decide +kernel
theorem gv_el12 : ∀ j, j < 5 → gvC[231 + j]? = some (Cond.eq (.elem (.field (tmS 12) "java/lang/String" "value" "[B") (.int (Int32.ofNat j))) (.int ((strB.getD 12 []).getD j 0))) := by decide +kernel
theorem gv_el13 : ∀ j, j < 6 → gvC[252 + j]? = some (Cond.eq (.elem (.field (tmS 13) "java/lang/String" "value" "[B") (.int (Int32.ofNat j))) (.int ((strB.getD 13 []).getD j 0))) := by decide +kernel
theorem gv_el14 : ∀ j, j < 4 → gvC[275 + j]? = some (Cond.eq (.elem (.field (tmS 14) "java/lang/String" "value" "[B") (.int (Int32.ofNat j))) (.int ((strB.getD 14 []).getD j 0))) := by decide +kernel
theorem gv_el15 : ∀ j, j < 3 → gvC[297 + j]? = some (Cond.eq (.elem (.field (tmS 15) "java/lang/String" "value" "[B") (.int (Int32.ofNat j))) (.int ((strB.getD 15 []).getD j 0))) := by decide +kernel
theorem gv_el16 : ∀ j, j < 3 → gvC[319 + j]? = some (Cond.eq (.elem (.field (tmS 16) "java/lang/String" "value" "[B") (.int (Int32.ofNat j))) (.int ((strB.getD 16 []).getD j 0))) := by decide +kernel
theorem gv_el17 : ∀ j, j < 3 → gvC[342 + j]? = some (Cond.eq (.elem (.field (tmS 17) "java/lang/String" "value" "[B") (.int (Int32.ofNat j))) (.int ((strB.getD 17 []).getD j 0))) := by decide +kernel
theorem gv_el18 : ∀ j, j < 2 → gvC[366 + j]? = some (Cond.eq (.elem (.field (tmS 18) "java/lang/String" "value" "[B") (.int (Int32.ofNat j))) (.int ((strB.getD 18 []).getD j 0))) := by decide +kernel
theorem gv_el19 : ∀ j, j < 3 → gvC[390 + j]? = some (Cond.eq (.elem (.field (tmS 19) "java/lang/String" "value" "[B") (.int (Int32.ofNat j))) (.int ((strB.getD 19 []).getD j 0))) := by decide +kernel
theorem gv_el20 : ∀ j, j < 4 → gvC[416 + j]? = some (Cond.eq (.elem (.field (tmS 20) "java/lang/String" "value" "[B") (.int (Int32.ofNat j))) (.int ((strB.getD 20 []).getD j 0))) := by decide +kernel
theorem gv_el21 : ∀ j, j < 107 → gvC[444 + j]? = some (Cond.eq (.elem (.field (tmS 21) "java/lang/String" "value" "[B") (.int (Int32.ofNat j))) (.int ((strB.getD 21 []).getD j 0))) := by decide +kernel
theorem gv_el : ∀ i, i < 22 → ∀ j, j < strL.getD i 0 → Cond.eq (.elem (.field (tmS i) "java/lang/String" "value" "[B") (.int (Int32.ofNat j))) (.int ((strB.getD i []).getD j 0)) ∈ gvC
  | 0, _, j, hj => List.mem_of_getElem? (gv_el0 j hj)
  | 1, _, j, hj => List.mem_of_getElem? (gv_el1 j hj)
  | 2, _, j, hj => List.mem_of_getElem? (gv_el2 j hj)
  | 3, _, j, hj => List.mem_of_getElem? (gv_el3 j hj)
  | 4, _, j, hj => List.mem_of_getElem? (gv_el4 j hj)
  | 5, _, j, hj => List.mem_of_getElem? (gv_el5 j hj)
  | 6, _, j, hj => List.mem_of_getElem? (gv_el6 j hj)
  | 7, _, j, hj => List.mem_of_getElem? (gv_el7 j hj)
  | 8, _, j, hj => List.mem_of_getElem? (gv_el8 j hj)
  | 9, _, j, hj => List.mem_of_getElem? (gv_el9 j hj)
  | 10, _, j, hj => List.mem_of_getElem? (gv_el10 j hj)
  | 11, _, j, hj => List.mem_of_getElem? (gv_el11 j hj)
  | 12, _, j, hj => List.mem_of_getElem? (gv_el12 j hj)
  | 13, _, j, hj => List.mem_of_getElem? (gv_el13 j hj)
  | 14, _, j, hj => List.mem_of_getElem? (gv_el14 j hj)
  | 15, _, j, hj => List.mem_of_getElem? (gv_el15 j hj)
  | 16, _, j, hj => List.mem_of_getElem? (gv_el16 j hj)
  | 17, _, j, hj => List.mem_of_getElem? (gv_el17 j hj)
  | 18, _, j, hj => List.mem_of_getElem? (gv_el18 j hj)
  | 19, _, j, hj => List.mem_of_getElem? (gv_el19 j hj)
  | 20, _, j, hj => List.mem_of_getElem? (gv_el20 j hj)
  | 21, _, j, hj => List.mem_of_getElem? (gv_el21 j hj)
  | n + 22, h, _, _ => by omega
theorem gv_ne0 : ∀ d, d < 21 → gvC[([73, 83, 95, 105, 115, 131, 145, 162, 178, 197, 216, 236, 258, 279, 300, 322, 345, 368, 393, 420, 551] : List Nat).getD d 0]? = some (Cond.not (Cond.eq (tmS 0) (tmS (1 + d)))) := by decide +kernel
theorem gv_ne1 : ∀ d, d < 20 → gvC[([84, 96, 106, 116, 132, 146, 163, 179, 198, 217, 237, 259, 280, 301, 323, 346, 369, 394, 421, 552] : List Nat).getD d 0]? = some (Cond.not (Cond.eq (tmS 1) (tmS (2 + d)))) := by decide +kernel
theorem gv_ne2 : ∀ d, d < 19 → gvC[([97, 107, 117, 133, 147, 164, 180, 199, 218, 238, 260, 281, 302, 324, 347, 370, 395, 422, 553] : List Nat).getD d 0]? = some (Cond.not (Cond.eq (tmS 2) (tmS (3 + d)))) := by decide +kernel
theorem gv_ne3 : ∀ d, d < 18 → gvC[([108, 118, 134, 148, 165, 181, 200, 219, 239, 261, 282, 303, 325, 348, 371, 396, 423, 554] : List Nat).getD d 0]? = some (Cond.not (Cond.eq (tmS 3) (tmS (4 + d)))) := by decide +kernel
theorem gv_ne4 : ∀ d, d < 17 → gvC[([119, 135, 149, 166, 182, 201, 220, 240, 262, 283, 304, 326, 349, 372, 397, 424, 555] : List Nat).getD d 0]? = some (Cond.not (Cond.eq (tmS 4) (tmS (5 + d)))) := by decide +kernel
theorem gv_ne5 : ∀ d, d < 16 → gvC[([136, 150, 167, 183, 202, 221, 241, 263, 284, 305, 327, 350, 373, 398, 425, 556] : List Nat).getD d 0]? = some (Cond.not (Cond.eq (tmS 5) (tmS (6 + d)))) := by decide +kernel
theorem gv_ne6 : ∀ d, d < 15 → gvC[([151, 168, 184, 203, 222, 242, 264, 285, 306, 328, 351, 374, 399, 426, 557] : List Nat).getD d 0]? = some (Cond.not (Cond.eq (tmS 6) (tmS (7 + d)))) := by decide +kernel
theorem gv_ne7 : ∀ d, d < 14 → gvC[([169, 185, 204, 223, 243, 265, 286, 307, 329, 352, 375, 400, 427, 558] : List Nat).getD d 0]? = some (Cond.not (Cond.eq (tmS 7) (tmS (8 + d)))) := by decide +kernel
theorem gv_ne8 : ∀ d, d < 13 → gvC[([186, 205, 224, 244, 266, 287, 308, 330, 353, 376, 401, 428, 559] : List Nat).getD d 0]? = some (Cond.not (Cond.eq (tmS 8) (tmS (9 + d)))) := by decide +kernel
theorem gv_ne9 : ∀ d, d < 12 → gvC[([206, 225, 245, 267, 288, 309, 331, 354, 377, 402, 429, 560] : List Nat).getD d 0]? = some (Cond.not (Cond.eq (tmS 9) (tmS (10 + d)))) := by decide +kernel
theorem gv_ne10 : ∀ d, d < 11 → gvC[([226, 246, 268, 289, 310, 332, 355, 378, 403, 430, 561] : List Nat).getD d 0]? = some (Cond.not (Cond.eq (tmS 10) (tmS (11 + d)))) := by decide +kernel
theorem gv_ne11 : ∀ d, d < 10 → gvC[([247, 269, 290, 311, 333, 356, 379, 404, 431, 562] : List Nat).getD d 0]? = some (Cond.not (Cond.eq (tmS 11) (tmS (12 + d)))) := by decide +kernel
theorem gv_ne12 : ∀ d, d < 9 → gvC[([270, 291, 312, 334, 357, 380, 405, 432, 563] : List Nat).getD d 0]? = some (Cond.not (Cond.eq (tmS 12) (tmS (13 + d)))) := by decide +kernel
theorem gv_ne13 : ∀ d, d < 8 → gvC[([292, 313, 335, 358, 381, 406, 433, 564] : List Nat).getD d 0]? = some (Cond.not (Cond.eq (tmS 13) (tmS (14 + d)))) := by decide +kernel
theorem gv_ne14 : ∀ d, d < 7 → gvC[([314, 336, 359, 382, 407, 434, 565] : List Nat).getD d 0]? = some (Cond.not (Cond.eq (tmS 14) (tmS (15 + d)))) := by decide +kernel
theorem gv_ne15 : ∀ d, d < 6 → gvC[([337, 360, 383, 408, 435, 566] : List Nat).getD d 0]? = some (Cond.not (Cond.eq (tmS 15) (tmS (16 + d)))) := by decide +kernel
theorem gv_ne16 : ∀ d, d < 5 → gvC[([361, 384, 409, 436, 567] : List Nat).getD d 0]? = some (Cond.not (Cond.eq (tmS 16) (tmS (17 + d)))) := by decide +kernel
theorem gv_ne17 : ∀ d, d < 4 → gvC[([385, 410, 437, 568] : List Nat).getD d 0]? = some (Cond.not (Cond.eq (tmS 17) (tmS (18 + d)))) := by decide +kernel
theorem gv_ne18 : ∀ d, d < 3 → gvC[([411, 438, 569] : List Nat).getD d 0]? = some (Cond.not (Cond.eq (tmS 18) (tmS (19 + d)))) := by decide +kernel
theorem gv_ne19 : ∀ d, d < 2 → gvC[([439, 570] : List Nat).getD d 0]? = some (Cond.not (Cond.eq (tmS 19) (tmS (20 + d)))) := by decide +kernel
theorem gv_ne20 : ∀ d, d < 1 → gvC[([571] : List Nat).getD d 0]? = some (Cond.not (Cond.eq (tmS 20) (tmS (21 + d)))) := by decide +kernel
theorem gv_lt : ∀ i, i < 22 → ∀ j, j < 22 → i < j → Cond.not (Cond.eq (tmS i) (tmS j)) ∈ gvC
  | 0, _, j, hj, hij => by
    obtain ⟨d, rfl⟩ := Nat.le.dest (show 0 + 1 ≤ j from hij)
    exact List.mem_of_getElem? (gv_ne0 d (by omega))
  | 1, _, j, hj, hij => by
    obtain ⟨d, rfl⟩ := Nat.le.dest (show 1 + 1 ≤ j from hij)
    exact List.mem_of_getElem? (gv_ne1 d (by omega))
  | 2, _, j, hj, hij => by
    obtain ⟨d, rfl⟩ := Nat.le.dest (show 2 + 1 ≤ j from hij)
    exact List.mem_of_getElem? (gv_ne2 d (by omega))
  | 3, _, j, hj, hij => by
    obtain ⟨d, rfl⟩ := Nat.le.dest (show 3 + 1 ≤ j from hij)
    exact List.mem_of_getElem? (gv_ne3 d (by omega))
  | 4, _, j, hj, hij => by
    obtain ⟨d, rfl⟩ := Nat.le.dest (show 4 + 1 ≤ j from hij)
    exact List.mem_of_getElem? (gv_ne4 d (by omega))
  | 5, _, j, hj, hij => by
    obtain ⟨d, rfl⟩ := Nat.le.dest (show 5 + 1 ≤ j from hij)
    exact List.mem_of_getElem? (gv_ne5 d (by omega))
  | 6, _, j, hj, hij => by
    obtain ⟨d, rfl⟩ := Nat.le.dest (show 6 + 1 ≤ j from hij)
    exact List.mem_of_getElem? (gv_ne6 d (by omega))
  | 7, _, j, hj, hij => by
    obtain ⟨d, rfl⟩ := Nat.le.dest (show 7 + 1 ≤ j from hij)
    exact List.mem_of_getElem? (gv_ne7 d (by omega))
  | 8, _, j, hj, hij => by
    obtain ⟨d, rfl⟩ := Nat.le.dest (show 8 + 1 ≤ j from hij)
    exact List.mem_of_getElem? (gv_ne8 d (by omega))
  | 9, _, j, hj, hij => by
    obtain ⟨d, rfl⟩ := Nat.le.dest (show 9 + 1 ≤ j from hij)
    exact List.mem_of_getElem? (gv_ne9 d (by omega))
  | 10, _, j, hj, hij => by
    obtain ⟨d, rfl⟩ := Nat.le.dest (show 10 + 1 ≤ j from hij)
    exact List.mem_of_getElem? (gv_ne10 d (by omega))
  | 11, _, j, hj, hij => by
    obtain ⟨d, rfl⟩ := Nat.le.dest (show 11 + 1 ≤ j from hij)
    exact List.mem_of_getElem? (gv_ne11 d (by omega))
  | 12, _, j, hj, hij => by
    obtain ⟨d, rfl⟩ := Nat.le.dest (show 12 + 1 ≤ j from hij)
    exact List.mem_of_getElem? (gv_ne12 d (by omega))
  | 13, _, j, hj, hij => by
    obtain ⟨d, rfl⟩ := Nat.le.dest (show 13 + 1 ≤ j from hij)
    exact List.mem_of_getElem? (gv_ne13 d (by omega))
  | 14, _, j, hj, hij => by
    obtain ⟨d, rfl⟩ := Nat.le.dest (show 14 + 1 ≤ j from hij)
    exact List.mem_of_getElem? (gv_ne14 d (by omega))
  | 15, _, j, hj, hij => by
    obtain ⟨d, rfl⟩ := Nat.le.dest (show 15 + 1 ≤ j from hij)
    exact List.mem_of_getElem? (gv_ne15 d (by omega))
  | 16, _, j, hj, hij => by
    obtain ⟨d, rfl⟩ := Nat.le.dest (show 16 + 1 ≤ j from hij)
    exact List.mem_of_getElem? (gv_ne16 d (by omega))
  | 17, _, j, hj, hij => by
    obtain ⟨d, rfl⟩ := Nat.le.dest (show 17 + 1 ≤ j from hij)
    exact List.mem_of_getElem? (gv_ne17 d (by omega))
  | 18, _, j, hj, hij => by
    obtain ⟨d, rfl⟩ := Nat.le.dest (show 18 + 1 ≤ j from hij)
    exact List.mem_of_getElem? (gv_ne18 d (by omega))
  | 19, _, j, hj, hij => by
    obtain ⟨d, rfl⟩ := Nat.le.dest (show 19 + 1 ≤ j from hij)
    exact List.mem_of_getElem? (gv_ne19 d (by omega))
  | 20, _, j, hj, hij => by
    obtain ⟨d, rfl⟩ := Nat.le.dest (show 20 + 1 ≤ j from hij)
    exact List.mem_of_getElem? (gv_ne20 d (by omega))
  | 21, _, j, hj, hij => by omega
  | n + 22, h, _, _, _ => by omega
theorem gv_ne : ∀ i, i < 22 → ∀ j, j < 22 → i ≠ j → Cond.not (Cond.eq (tmS i) (tmS j)) ∈ gvC ∨ Cond.not (Cond.eq (tmS j) (tmS i)) ∈ gvC := fun i hi j hj hne => by
  rcases Nat.lt_or_gt_of_ne hne with h | h
  · exact Or.inl (gv_lt i hi j hj h)
  · exact Or.inr (gv_lt j hj i hi h)
theorem gv_cs : Cond.eq (.static "java/lang/String" "COMPACT_STRINGS" "Z") (.int 1) ∈ gvC := by decide +kernel
theorem gv_sf : Cond.isRef (.static "jdk/internal/util/Preconditions" "SIOOBE_FORMATTER" "Ljava/util/function/BiFunction;") ∈ gvC := by decide +kernel
theorem gv_one : Cond.eq (Term.string "LoatheMatch$Reader" 224) (Term.string "LoatheMatchModel" 115) ∈ gvC := by decide +kernel
theorem gv_st : ∀ q ∈ strR, Cond.stringRef q.1 q.2.1 (strT.getD q.2.2 "") ∈ lw_tbl := by decide +kernel
theorem gv_nest : ∀ q ∈ nestW, Cond.methodLinkNest q.1 q.2.1 q.2.2.1 q.2.2.2 ∈ lw_tbl := by decide +kernel
theorem gv_ao : ∀ C ∈ aoW, Cond.arrayOver (.object C) ∈ lw_tbl := by decide +kernel
theorem gv_c1 : Cond.laysStatic "java/lang/String" "COMPACT_STRINGS" "Z" ∈ lw_tbl := by decide +kernel
theorem gv_c2 : Cond.initialized "java/lang/String" ∈ lw_tbl := by decide +kernel
theorem gv_f1 : Cond.laysStatic "jdk/internal/util/Preconditions" "SIOOBE_FORMATTER" "Ljava/util/function/BiFunction;" ∈ lw_tbl := by decide +kernel
theorem gv_f2 : Cond.initialized "jdk/internal/util/Preconditions" ∈ lw_tbl := by decide +kernel
