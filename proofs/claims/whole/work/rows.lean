section
/-- a private method of a class that the tables say can be made, by its rows of tables_1 -/
def lw_okq (q : MethodName × Nat) : Prop := (q.1.cls ≠ "java/lang/invoke/MethodHandle" ∧ q.1.cls ≠ "java/lang/invoke/VarHandle") ∧ Cond.instantiable q.1.cls q.2 ∈ tables_1 ∧ Cond.privateMethod q.1 ∈ tables_1 ∧ Cond.instanceMethod q.1 ∈ tables_1
theorem lw_p0 : lw_okq (⟨"SpaceWalls", "freshCut", "()LSpaceWalls$Cut;"⟩, 5) := ⟨⟨by decide +kernel, by decide +kernel⟩, List.mem_of_getElem? (i := 12) (by decide +kernel), List.mem_of_getElem? (i := 275) (by decide +kernel), List.mem_of_getElem? (i := 276) (by decide +kernel)⟩
theorem lw_p1 : lw_okq (⟨"SpaceWalls$Heaps", "rankWith", "(II)V"⟩, 7) := ⟨⟨by decide +kernel, by decide +kernel⟩, List.mem_of_getElem? (i := 80) (by decide +kernel), List.mem_of_getElem? (i := 294) (by decide +kernel), List.mem_of_getElem? (i := 295) (by decide +kernel)⟩
theorem lw_p2 : lw_okq (⟨"SpaceWalls$Cut", "crossPlanes", "()V"⟩, 13) := ⟨⟨by decide +kernel, by decide +kernel⟩, List.mem_of_getElem? (i := 134) (by decide +kernel), List.mem_of_getElem? (i := 315) (by decide +kernel), List.mem_of_getElem? (i := 316) (by decide +kernel)⟩
theorem lw_p3 : lw_okq (⟨"SpaceWalls$Cut", "noteLine", "()V"⟩, 13) := ⟨⟨by decide +kernel, by decide +kernel⟩, List.mem_of_getElem? (i := 134) (by decide +kernel), List.mem_of_getElem? (i := 334) (by decide +kernel), List.mem_of_getElem? (i := 335) (by decide +kernel)⟩
theorem lw_p4 : lw_okq (⟨"SpaceWalls$Cut", "noteCorner", "(III)V"⟩, 13) := ⟨⟨by decide +kernel, by decide +kernel⟩, List.mem_of_getElem? (i := 134) (by decide +kernel), List.mem_of_getElem? (i := 341) (by decide +kernel), List.mem_of_getElem? (i := 342) (by decide +kernel)⟩
theorem lw_p5 : lw_okq (⟨"SpaceWalls$Cut", "reach", "(I)V"⟩, 13) := ⟨⟨by decide +kernel, by decide +kernel⟩, List.mem_of_getElem? (i := 134) (by decide +kernel), List.mem_of_getElem? (i := 346) (by decide +kernel), List.mem_of_getElem? (i := 347) (by decide +kernel)⟩
theorem lw_p6 : lw_okq (⟨"SpaceWalls$Cut", "isMarked", "(I)Z"⟩, 13) := ⟨⟨by decide +kernel, by decide +kernel⟩, List.mem_of_getElem? (i := 134) (by decide +kernel), List.mem_of_getElem? (i := 351) (by decide +kernel), List.mem_of_getElem? (i := 352) (by decide +kernel)⟩
theorem lw_p7 : lw_okq (⟨"SpaceWalls$Cut", "moveFrom", "(I)V"⟩, 13) := ⟨⟨by decide +kernel, by decide +kernel⟩, List.mem_of_getElem? (i := 134) (by decide +kernel), List.mem_of_getElem? (i := 355) (by decide +kernel), List.mem_of_getElem? (i := 356) (by decide +kernel)⟩
theorem lw_p8 : lw_okq (⟨"SpaceWalls$Cut", "sortRows", "()V"⟩, 13) := ⟨⟨by decide +kernel, by decide +kernel⟩, List.mem_of_getElem? (i := 134) (by decide +kernel), List.mem_of_getElem? (i := 359) (by decide +kernel), List.mem_of_getElem? (i := 360) (by decide +kernel)⟩
theorem lw_p9 : lw_okq (⟨"SpaceWalls$PrimeCounter", "hits", "(III)I"⟩, 2) := ⟨⟨by decide +kernel, by decide +kernel⟩, List.mem_of_getElem? (i := 183) (by decide +kernel), List.mem_of_getElem? (i := 485) (by decide +kernel), List.mem_of_getElem? (i := 486) (by decide +kernel)⟩
theorem lw_p10 : lw_okq (⟨"SpaceWallsModel", "isSame", "(IIIII)Z"⟩, 12) := ⟨⟨by decide +kernel, by decide +kernel⟩, List.mem_of_getElem? (i := 497) (by decide +kernel), List.mem_of_getElem? (i := 548) (by decide +kernel), List.mem_of_getElem? (i := 549) (by decide +kernel)⟩
theorem lw_p11 : lw_okq (⟨"SpaceWallsModel", "at", "(II)I"⟩, 12) := ⟨⟨by decide +kernel, by decide +kernel⟩, List.mem_of_getElem? (i := 497) (by decide +kernel), List.mem_of_getElem? (i := 552) (by decide +kernel), List.mem_of_getElem? (i := 553) (by decide +kernel)⟩
theorem lw_p12 : lw_okq (⟨"SpaceWallsModel", "isFace", "(I)Z"⟩, 12) := ⟨⟨by decide +kernel, by decide +kernel⟩, List.mem_of_getElem? (i := 497) (by decide +kernel), List.mem_of_getElem? (i := 577) (by decide +kernel), List.mem_of_getElem? (i := 578) (by decide +kernel)⟩
theorem lw_p13 : lw_okq (⟨"SpaceWallsModel", "works", "()V"⟩, 12) := ⟨⟨by decide +kernel, by decide +kernel⟩, List.mem_of_getElem? (i := 497) (by decide +kernel), List.mem_of_getElem? (i := 581) (by decide +kernel), List.mem_of_getElem? (i := 582) (by decide +kernel)⟩
theorem lw_p14 : lw_okq (⟨"SpaceWallsModel", "isThere", "(II)Z"⟩, 12) := ⟨⟨by decide +kernel, by decide +kernel⟩, List.mem_of_getElem? (i := 497) (by decide +kernel), List.mem_of_getElem? (i := 585) (by decide +kernel), List.mem_of_getElem? (i := 586) (by decide +kernel)⟩
theorem lw_p15 : lw_okq (⟨"SpaceWallsModel", "begins", "()V"⟩, 12) := ⟨⟨by decide +kernel, by decide +kernel⟩, List.mem_of_getElem? (i := 497) (by decide +kernel), List.mem_of_getElem? (i := 589) (by decide +kernel), List.mem_of_getElem? (i := 590) (by decide +kernel)⟩
def lw_privs_1 : List (MethodName × Nat) := [(⟨"SpaceWalls", "freshCut", "()LSpaceWalls$Cut;"⟩, 5), (⟨"SpaceWalls$Heaps", "rankWith", "(II)V"⟩, 7), (⟨"SpaceWalls$Cut", "crossPlanes", "()V"⟩, 13), (⟨"SpaceWalls$Cut", "noteLine", "()V"⟩, 13), (⟨"SpaceWalls$Cut", "noteCorner", "(III)V"⟩, 13), (⟨"SpaceWalls$Cut", "reach", "(I)V"⟩, 13), (⟨"SpaceWalls$Cut", "isMarked", "(I)Z"⟩, 13), (⟨"SpaceWalls$Cut", "moveFrom", "(I)V"⟩, 13), (⟨"SpaceWalls$Cut", "sortRows", "()V"⟩, 13), (⟨"SpaceWalls$PrimeCounter", "hits", "(III)I"⟩, 2), (⟨"SpaceWallsModel", "isSame", "(IIIII)Z"⟩, 12), (⟨"SpaceWallsModel", "at", "(II)I"⟩, 12), (⟨"SpaceWallsModel", "isFace", "(I)Z"⟩, 12), (⟨"SpaceWallsModel", "works", "()V"⟩, 12), (⟨"SpaceWallsModel", "isThere", "(II)Z"⟩, 12), (⟨"SpaceWallsModel", "begins", "()V"⟩, 12)]
theorem lw_r1 : ∀ q ∈ lw_privs_1, lw_okq q := List.forall_mem_cons.mpr ⟨lw_p0, List.forall_mem_cons.mpr ⟨lw_p1, List.forall_mem_cons.mpr ⟨lw_p2, List.forall_mem_cons.mpr ⟨lw_p3, List.forall_mem_cons.mpr ⟨lw_p4, List.forall_mem_cons.mpr ⟨lw_p5, List.forall_mem_cons.mpr ⟨lw_p6, List.forall_mem_cons.mpr ⟨lw_p7, List.forall_mem_cons.mpr ⟨lw_p8, List.forall_mem_cons.mpr ⟨lw_p9, List.forall_mem_cons.mpr ⟨lw_p10, List.forall_mem_cons.mpr ⟨lw_p11, List.forall_mem_cons.mpr ⟨lw_p12, List.forall_mem_cons.mpr ⟨lw_p13, List.forall_mem_cons.mpr ⟨lw_p14, List.forall_mem_cons.mpr ⟨lw_p15, fun _ h => absurd h List.not_mem_nil⟩⟩⟩⟩⟩⟩⟩⟩⟩⟩⟩⟩⟩⟩⟩⟩
theorem lw_p16 : lw_okq (⟨"SpaceWallsModel", "adds", "(II)V"⟩, 12) := ⟨⟨by decide +kernel, by decide +kernel⟩, List.mem_of_getElem? (i := 497) (by decide +kernel), List.mem_of_getElem? (i := 596) (by decide +kernel), List.mem_of_getElem? (i := 597) (by decide +kernel)⟩
theorem lw_p17 : lw_okq (⟨"SpaceWallsModel", "takesOut", "(I)V"⟩, 12) := ⟨⟨by decide +kernel, by decide +kernel⟩, List.mem_of_getElem? (i := 497) (by decide +kernel), List.mem_of_getElem? (i := 600) (by decide +kernel), List.mem_of_getElem? (i := 601) (by decide +kernel)⟩
theorem lw_p18 : lw_okq (⟨"SpaceWallsModel", "puts", "(IJIJZ)V"⟩, 12) := ⟨⟨by decide +kernel, by decide +kernel⟩, List.mem_of_getElem? (i := 497) (by decide +kernel), List.mem_of_getElem? (i := 604) (by decide +kernel), List.mem_of_getElem? (i := 605) (by decide +kernel)⟩
theorem lw_p19 : lw_okq (⟨"SpaceWallsModel", "onWalls", "(I)I"⟩, 12) := ⟨⟨by decide +kernel, by decide +kernel⟩, List.mem_of_getElem? (i := 497) (by decide +kernel), List.mem_of_getElem? (i := 611) (by decide +kernel), List.mem_of_getElem? (i := 612) (by decide +kernel)⟩
theorem lw_p20 : lw_okq (⟨"SpaceWallsModel", "rank", "(II)I"⟩, 12) := ⟨⟨by decide +kernel, by decide +kernel⟩, List.mem_of_getElem? (i := 497) (by decide +kernel), List.mem_of_getElem? (i := 615) (by decide +kernel), List.mem_of_getElem? (i := 616) (by decide +kernel)⟩
theorem lw_p21 : lw_okq (⟨"SpaceWallsModel", "isRoom", "(I)Z"⟩, 12) := ⟨⟨by decide +kernel, by decide +kernel⟩, List.mem_of_getElem? (i := 497) (by decide +kernel), List.mem_of_getElem? (i := 632) (by decide +kernel), List.mem_of_getElem? (i := 633) (by decide +kernel)⟩
theorem lw_p22 : lw_okq (⟨"SpaceWallsModel", "leadsEither", "(IIII)Z"⟩, 12) := ⟨⟨by decide +kernel, by decide +kernel⟩, List.mem_of_getElem? (i := 497) (by decide +kernel), List.mem_of_getElem? (i := 636) (by decide +kernel), List.mem_of_getElem? (i := 637) (by decide +kernel)⟩
theorem lw_p23 : lw_okq (⟨"SpaceWallsModel", "leadsOn", "(IIII)Z"⟩, 12) := ⟨⟨by decide +kernel, by decide +kernel⟩, List.mem_of_getElem? (i := 497) (by decide +kernel), List.mem_of_getElem? (i := 640) (by decide +kernel), List.mem_of_getElem? (i := 641) (by decide +kernel)⟩
theorem lw_p24 : lw_okq (⟨"SpaceWallsModel", "polynomial", "(II)I"⟩, 12) := ⟨⟨by decide +kernel, by decide +kernel⟩, List.mem_of_getElem? (i := 497) (by decide +kernel), List.mem_of_getElem? (i := 653) (by decide +kernel), List.mem_of_getElem? (i := 654) (by decide +kernel)⟩
theorem lw_p25 : lw_okq (⟨"SpaceWallsModel", "meets", "(I)Z"⟩, 12) := ⟨⟨by decide +kernel, by decide +kernel⟩, List.mem_of_getElem? (i := 497) (by decide +kernel), List.mem_of_getElem? (i := 657) (by decide +kernel), List.mem_of_getElem? (i := 658) (by decide +kernel)⟩
theorem lw_p26 : lw_okq (⟨"SpaceWallsModel", "parted", "(II)I"⟩, 12) := ⟨⟨by decide +kernel, by decide +kernel⟩, List.mem_of_getElem? (i := 497) (by decide +kernel), List.mem_of_getElem? (i := 687) (by decide +kernel), List.mem_of_getElem? (i := 688) (by decide +kernel)⟩
def lw_privs_2 : List (MethodName × Nat) := [(⟨"SpaceWallsModel", "adds", "(II)V"⟩, 12), (⟨"SpaceWallsModel", "takesOut", "(I)V"⟩, 12), (⟨"SpaceWallsModel", "puts", "(IJIJZ)V"⟩, 12), (⟨"SpaceWallsModel", "onWalls", "(I)I"⟩, 12), (⟨"SpaceWallsModel", "rank", "(II)I"⟩, 12), (⟨"SpaceWallsModel", "isRoom", "(I)Z"⟩, 12), (⟨"SpaceWallsModel", "leadsEither", "(IIII)Z"⟩, 12), (⟨"SpaceWallsModel", "leadsOn", "(IIII)Z"⟩, 12), (⟨"SpaceWallsModel", "polynomial", "(II)I"⟩, 12), (⟨"SpaceWallsModel", "meets", "(I)Z"⟩, 12), (⟨"SpaceWallsModel", "parted", "(II)I"⟩, 12)]
theorem lw_r2 : ∀ q ∈ lw_privs_2, lw_okq q := List.forall_mem_cons.mpr ⟨lw_p16, List.forall_mem_cons.mpr ⟨lw_p17, List.forall_mem_cons.mpr ⟨lw_p18, List.forall_mem_cons.mpr ⟨lw_p19, List.forall_mem_cons.mpr ⟨lw_p20, List.forall_mem_cons.mpr ⟨lw_p21, List.forall_mem_cons.mpr ⟨lw_p22, List.forall_mem_cons.mpr ⟨lw_p23, List.forall_mem_cons.mpr ⟨lw_p24, List.forall_mem_cons.mpr ⟨lw_p25, List.forall_mem_cons.mpr ⟨lw_p26, fun _ h => absurd h List.not_mem_nil⟩⟩⟩⟩⟩⟩⟩⟩⟩⟩⟩
def lw_privs : List (MethodName × Nat) := lw_privs_1 ++ (lw_privs_2)
def lw_tbl : List Cond := k2_sels lw_privs ++ tables_1
theorem lw_privs_ok : ∀ q ∈ lw_privs, lw_okq q := by
  show ∀ q ∈ lw_privs_1 ++ (lw_privs_2), lw_okq q
  exact List.forall_mem_append.mpr ⟨lw_r1, lw_r2⟩
end
section
/-! ===== BEGIN words of one list among another's, by their places ===== -/
theorem goodIn_r {big : List Cond} (ws : List Cond) (ps : List Nat) (hp : ws = ps.filterMap (fun i => big[i]?)) (h : ws.all goodWord = true) : GoodIn big ws := by
  intro w hw
  have h1 := List.all_eq_true.mp h w hw
  rw [hp] at hw
  obtain ⟨i, -, hi⟩ := List.mem_filterMap.mp hw
  have hm : w ∈ big := by first | exact List.mem_of_getElem? hi | exact List.getElem?_mem hi
  exact ⟨hm, good_of_word h1⟩
theorem goodIn_app {big a b : List Cond} (ha : GoodIn big a) (hb : GoodIn big b) : GoodIn big (a ++ b) := fun w h => (List.mem_append.mp h).elim (ha w) (hb w)
theorem goodIn_ca {big a b : List Cond} {c : Cond} (ha : GoodIn big (c :: a)) (hb : GoodIn big b) : GoodIn big (c :: (a ++ b)) := fun w h => (List.mem_cons.mp h).elim (fun e => ha w (List.mem_cons.mpr (Or.inl e))) (fun h => (List.mem_append.mp h).elim (fun h => ha w (List.mem_cons.mpr (Or.inr h))) (hb w))
theorem goodIn_sub {big ws : List Cond} (hm : ∀ w ∈ ws, w ∈ big) (h : ws.all goodWord = true) : GoodIn big ws := fun w hw => ⟨hm w hw, good_of_word (List.all_eq_true.mp h w hw)⟩
/-! ===== END ===== -/

/-! ===== BEGIN printed: names, fields, word lists, decode rows ===== -/
def RX0 : String := "SpaceWalls$Arrow"
def TX0 : u_T := fun k => match k with
  | 0 => ("SpaceWalls$Arrow", "x", "I", false)
  | 1 => ("SpaceWalls$Arrow", "y", "I", false)
  | _ => ("SpaceWalls$Arrow", "z", "I", false)
def tyX0 : Nat → FieldType := fun k => match k with
  | 0 => .int
  | 1 => .int
  | _ => .int
abbrev wsX00 : List Cond := u_ws RX0 TX0 3
theorem nmX0 : ∀ a, a < 3 → ∀ b, b < 3 → a ≠ b → (TX0 a).2.1 ≠ (TX0 b).2.1 := by decide +kernel
theorem tyX0_ok : ∀ k, k < 3 → parseFieldDescriptor (TX0 k).2.2.1 = some (tyX0 k) := by decide +kernel
abbrev cX0_init : ByteArray := prog_2_method_1_code
def yX0_init : MethodName := ⟨RX0, "<init>", "()V"⟩
abbrev cX0_alongBoth : ByteArray := prog_2_method_2_code
def yX0_alongBoth : MethodName := ⟨RX0, "alongBoth", "(LSpaceWalls$Planes;II)V"⟩
abbrev cX0_set : ByteArray := prog_2_method_3_code
def yX0_set : MethodName := ⟨RX0, "set", "(III)V"⟩
abbrev cX0_crossWith : ByteArray := prog_2_method_4_code
def yX0_crossWith : MethodName := ⟨RX0, "crossWith", "(LSpaceWalls$Planes;I)V"⟩
abbrev cX0_climb : ByteArray := prog_2_method_5_code
def yX0_climb : MethodName := ⟨RX0, "climb", "(LSpaceWalls$Planes;I)I"⟩
abbrev cX0_isNothing : ByteArray := prog_2_method_6_code
def yX0_isNothing : MethodName := ⟨RX0, "isNothing", "()Z"⟩
def RX1 : String := "SpaceWalls$Cut"
def TX1 : u_T := fun k => match k with
  | 0 => ("SpaceWalls$Cut", "planes", "LSpaceWalls$Planes;", true)
  | 1 => ("SpaceWalls$Cut", "heaps", "LSpaceWalls$Heaps;", true)
  | 2 => ("SpaceWalls$Cut", "marks", "[I", true)
  | 3 => ("SpaceWalls$Cut", "reached", "[I", true)
  | 4 => ("SpaceWalls$Cut", "rows", "[I", true)
  | 5 => ("SpaceWalls$Cut", "widths", "[I", true)
  | 6 => ("SpaceWalls$Cut", "lineAbove", "[I", true)
  | 7 => ("SpaceWalls$Cut", "lineBelow", "[I", true)
  | 8 => ("SpaceWalls$Cut", "first", "LSpaceWalls$Arrow;", true)
  | 9 => ("SpaceWalls$Cut", "second", "LSpaceWalls$Arrow;", true)
  | 10 => ("SpaceWalls$Cut", "third", "LSpaceWalls$Arrow;", true)
  | 11 => ("SpaceWalls$Cut", "found", "I", false)
  | _ => ("SpaceWalls$Cut", "lines", "I", false)
def tyX1 : Nat → FieldType := fun k => match k with
  | 0 => .object "SpaceWalls$Planes"
  | 1 => .object "SpaceWalls$Heaps"
  | 2 => .array .int
  | 3 => .array .int
  | 4 => .array .int
  | 5 => .array .int
  | 6 => .array .int
  | 7 => .array .int
  | 8 => .object "SpaceWalls$Arrow"
  | 9 => .object "SpaceWalls$Arrow"
  | 10 => .object "SpaceWalls$Arrow"
  | 11 => .int
  | _ => .int
abbrev wsX10 : List Cond := u_ws RX1 TX1 13
theorem nmX1 : ∀ a, a < 13 → ∀ b, b < 13 → a ≠ b → (TX1 a).2.1 ≠ (TX1 b).2.1 := by decide +kernel
theorem tyX1_ok : ∀ k, k < 13 → parseFieldDescriptor (TX1 k).2.2.1 = some (tyX1 k) := by decide +kernel
abbrev cX1_init : ByteArray := prog_3_method_1_code
def yX1_init : MethodName := ⟨RX1, "<init>", "(LSpaceWalls$Planes;LSpaceWalls$Heaps;)V"⟩
abbrev cX1_cutAnew : ByteArray := prog_3_method_2_code
def yX1_cutAnew : MethodName := ⟨RX1, "cutAnew", "()V"⟩
abbrev cX1_crossPlanes : ByteArray := prog_3_method_3_code
def yX1_crossPlanes : MethodName := ⟨RX1, "crossPlanes", "()V"⟩
abbrev cX1_noteLine : ByteArray := prog_3_method_4_code
def yX1_noteLine : MethodName := ⟨RX1, "noteLine", "()V"⟩
abbrev cX1_noteCorner : ByteArray := prog_3_method_5_code
def yX1_noteCorner : MethodName := ⟨RX1, "noteCorner", "(III)V"⟩
abbrev cX1_reach : ByteArray := prog_3_method_6_code
def yX1_reach : MethodName := ⟨RX1, "reach", "(I)V"⟩
abbrev cX1_isMarked : ByteArray := prog_3_method_7_code
def yX1_isMarked : MethodName := ⟨RX1, "isMarked", "(I)Z"⟩
abbrev cX1_moveFrom : ByteArray := prog_3_method_8_code
def yX1_moveFrom : MethodName := ⟨RX1, "moveFrom", "(I)V"⟩
abbrev cX1_sortRows : ByteArray := prog_3_method_9_code
def yX1_sortRows : MethodName := ⟨RX1, "sortRows", "()V"⟩
abbrev cX1_hasFace : ByteArray := prog_3_method_10_code
def yX1_hasFace : MethodName := ⟨RX1, "hasFace", "(I)Z"⟩
abbrev cX1_hasRoom : ByteArray := prog_3_method_11_code
def yX1_hasRoom : MethodName := ⟨RX1, "hasRoom", "(I)Z"⟩
abbrev cX1_countOfWidth : ByteArray := prog_3_method_12_code
def yX1_countOfWidth : MethodName := ⟨RX1, "countOfWidth", "(I)I"⟩
abbrev cX1_rowOfWidth : ByteArray := prog_3_method_13_code
def yX1_rowOfWidth : MethodName := ⟨RX1, "rowOfWidth", "(II)I"⟩
abbrev cX1_wallsOf : ByteArray := prog_3_method_14_code
def yX1_wallsOf : MethodName := ⟨RX1, "wallsOf", "(I)I"⟩
abbrev cX1_isOpen : ByteArray := prog_3_method_15_code
def yX1_isOpen : MethodName := ⟨RX1, "isOpen", "(I)Z"⟩
def RX2 : String := "SpaceWalls$Heaps"
def TX2 : u_T := fun k => match k with
  | 0 => ("SpaceWalls$Heaps", "planes", "LSpaceWalls$Planes;", true)
  | 1 => ("SpaceWalls$Heaps", "rank", "[I", true)
  | 2 => ("SpaceWalls$Heaps", "common", "[Z", true)
  | 3 => ("SpaceWalls$Heaps", "keyX", "[I", true)
  | 4 => ("SpaceWalls$Heaps", "keyY", "[I", true)
  | 5 => ("SpaceWalls$Heaps", "keyZ", "[I", true)
  | _ => ("SpaceWalls$Heaps", "key", "LSpaceWalls$Arrow;", true)
def tyX2 : Nat → FieldType := fun k => match k with
  | 0 => .object "SpaceWalls$Planes"
  | 1 => .array .int
  | 2 => .array .boolean
  | 3 => .array .int
  | 4 => .array .int
  | 5 => .array .int
  | _ => .object "SpaceWalls$Arrow"
abbrev wsX20 : List Cond := u_ws RX2 TX2 7
theorem nmX2 : ∀ a, a < 7 → ∀ b, b < 7 → a ≠ b → (TX2 a).2.1 ≠ (TX2 b).2.1 := by decide +kernel
theorem tyX2_ok : ∀ k, k < 7 → parseFieldDescriptor (TX2 k).2.2.1 = some (tyX2 k) := by decide +kernel
abbrev cX2_init : ByteArray := prog_4_method_1_code
def yX2_init : MethodName := ⟨RX2, "<init>", "(LSpaceWalls$Planes;)V"⟩
abbrev cX2_rankOfAll : ByteArray := prog_4_method_2_code
def yX2_rankOfAll : MethodName := ⟨RX2, "rankOfAll", "()I"⟩
abbrev cX2_forgetCommon : ByteArray := prog_4_method_3_code
def yX2_forgetCommon : MethodName := ⟨RX2, "forgetCommon", "()V"⟩
abbrev cX2_rankAnew : ByteArray := prog_4_method_4_code
def yX2_rankAnew : MethodName := ⟨RX2, "rankAnew", "()V"⟩
abbrev cX2_rankWith : ByteArray := prog_4_method_5_code
def yX2_rankWith : MethodName := ⟨RX2, "rankWith", "(II)V"⟩
abbrev cX2_shareDown : ByteArray := prog_4_method_6_code
def yX2_shareDown : MethodName := ⟨RX2, "shareDown", "()V"⟩
abbrev cX2_factor : ByteArray := prog_4_method_7_code
def yX2_factor : MethodName := ⟨RX2, "factor", "(II)I"⟩
def RX3 : String := "SpaceWalls$Planes"
def TX3 : u_T := fun k => match k with
  | 0 => ("SpaceWalls$Planes", "numbers", "I", true)
  | 1 => ("SpaceWalls$Planes", "a", "[I", true)
  | 2 => ("SpaceWalls$Planes", "b", "[I", true)
  | 3 => ("SpaceWalls$Planes", "c", "[I", true)
  | 4 => ("SpaceWalls$Planes", "e", "[I", true)
  | 5 => ("SpaceWalls$Planes", "threes", "[I", true)
  | _ => ("SpaceWalls$Planes", "size", "I", false)
def tyX3 : Nat → FieldType := fun k => match k with
  | 0 => .int
  | 1 => .array .int
  | 2 => .array .int
  | 3 => .array .int
  | 4 => .array .int
  | 5 => .array .int
  | _ => .int
abbrev wsX30 : List Cond := u_ws RX3 TX3 7
theorem nmX3 : ∀ a, a < 7 → ∀ b, b < 7 → a ≠ b → (TX3 a).2.1 ≠ (TX3 b).2.1 := by decide +kernel
theorem tyX3_ok : ∀ k, k < 7 → parseFieldDescriptor (TX3 k).2.2.1 = some (tyX3 k) := by decide +kernel
abbrev cX3_init : ByteArray := prog_5_method_1_code
def yX3_init : MethodName := ⟨RX3, "<init>", "(I)V"⟩
abbrev cX3_holds : ByteArray := prog_5_method_2_code
def yX3_holds : MethodName := ⟨RX3, "holds", "(I)Z"⟩
abbrev cX3_isPlane : ByteArray := prog_5_method_3_code
def yX3_isPlane : MethodName := ⟨RX3, "isPlane", "(IIII)Z"⟩
abbrev cX3_isWithin : ByteArray := prog_5_method_4_code
def yX3_isWithin : MethodName := ⟨RX3, "isWithin", "(II)Z"⟩
abbrev cX3_isThere : ByteArray := prog_5_method_5_code
def yX3_isThere : MethodName := ⟨RX3, "isThere", "(IIII)Z"⟩
abbrev cX3_append : ByteArray := prog_5_method_6_code
def yX3_append : MethodName := ⟨RX3, "append", "(IIII)V"⟩
abbrev cX3_drop : ByteArray := prog_5_method_7_code
def yX3_drop : MethodName := ⟨RX3, "drop", "(I)V"⟩
abbrev cX3_indexOf : ByteArray := prog_5_method_8_code
def yX3_indexOf : MethodName := ⟨RX3, "indexOf", "(I)I"⟩
abbrev cX3_signs : ByteArray := prog_5_method_9_code
def yX3_signs : MethodName := ⟨RX3, "signs", "(IIII)I"⟩
abbrev cX3_rowOf : ByteArray := prog_5_method_10_code
def yX3_rowOf : MethodName := ⟨RX3, "rowOf", "(I)I"⟩
def RX4 : String := "SpaceWalls$PrimeCounter"
def TX4 : u_T := fun k => match k with
  | 0 => ("SpaceWalls$PrimeCounter", "planes", "LSpaceWalls$Planes;", true)
  | _ => ("SpaceWalls$PrimeCounter", "turned", "[I", true)
def tyX4 : Nat → FieldType := fun k => match k with
  | 0 => .object "SpaceWalls$Planes"
  | _ => .array .int
abbrev wsX40 : List Cond := u_ws RX4 TX4 2
theorem nmX4 : ∀ a, a < 2 → ∀ b, b < 2 → a ≠ b → (TX4 a).2.1 ≠ (TX4 b).2.1 := by decide +kernel
theorem tyX4_ok : ∀ k, k < 2 → parseFieldDescriptor (TX4 k).2.2.1 = some (tyX4 k) := by decide +kernel
abbrev cX4_init : ByteArray := prog_6_method_1_code
def yX4_init : MethodName := ⟨RX4, "<init>", "(LSpaceWalls$Planes;)V"⟩
abbrev cX4_countMissed : ByteArray := prog_6_method_2_code
def yX4_countMissed : MethodName := ⟨RX4, "countMissed", "(I)I"⟩
abbrev cX4_hits : ByteArray := prog_6_method_3_code
def yX4_hits : MethodName := ⟨RX4, "hits", "(III)I"⟩
abbrev cX4_inverse : ByteArray := prog_6_method_4_code
def yX4_inverse : MethodName := ⟨RX4, "inverse", "(II)I"⟩
def RX5 : String := "SpaceWalls"
def TX5 : u_T := fun k => match k with
  | 0 => ("SpaceWalls", "planes", "LSpaceWalls$Planes;", true)
  | 1 => ("SpaceWalls", "heaps", "LSpaceWalls$Heaps;", true)
  | 2 => ("SpaceWalls", "cut", "LSpaceWalls$Cut;", true)
  | 3 => ("SpaceWalls", "counter", "LSpaceWalls$PrimeCounter;", true)
  | _ => ("SpaceWalls", "fresh", "Z", false)
def tyX5 : Nat → FieldType := fun k => match k with
  | 0 => .object "SpaceWalls$Planes"
  | 1 => .object "SpaceWalls$Heaps"
  | 2 => .object "SpaceWalls$Cut"
  | 3 => .object "SpaceWalls$PrimeCounter"
  | _ => .boolean
abbrev wsX50 : List Cond := u_ws RX5 TX5 5
theorem nmX5 : ∀ a, a < 5 → ∀ b, b < 5 → a ≠ b → (TX5 a).2.1 ≠ (TX5 b).2.1 := by decide +kernel
theorem tyX5_ok : ∀ k, k < 5 → parseFieldDescriptor (TX5 k).2.2.1 = some (tyX5 k) := by decide +kernel
abbrev cX5_init : ByteArray := prog_1_method_1_code
def yX5_init : MethodName := ⟨RX5, "<init>", "(I)V"⟩
abbrev cX5_wall : ByteArray := prog_1_method_2_code
def yX5_wall : MethodName := ⟨RX5, "wall", "(IIII)I"⟩
abbrev cX5_take : ByteArray := prog_1_method_3_code
def yX5_take : MethodName := ⟨RX5, "take", "(I)Z"⟩
abbrev cX5_told : ByteArray := prog_1_method_4_code
def yX5_told : MethodName := ⟨RX5, "told", "(II)I"⟩
abbrev cX5_row : ByteArray := prog_1_method_5_code
def yX5_row : MethodName := ⟨RX5, "row", "(III)I"⟩
abbrev cX5_faces : ByteArray := prog_1_method_6_code
def yX5_faces : MethodName := ⟨RX5, "faces", "(I)I"⟩
abbrev cX5_face : ByteArray := prog_1_method_7_code
def yX5_face : MethodName := ⟨RX5, "face", "(II)I"⟩
abbrev cX5_width : ByteArray := prog_1_method_8_code
def yX5_width : MethodName := ⟨RX5, "width", "(I)I"⟩
abbrev cX5_bounded : ByteArray := prog_1_method_9_code
def yX5_bounded : MethodName := ⟨RX5, "bounded", "(I)Z"⟩
abbrev cX5_boundedRooms : ByteArray := prog_1_method_10_code
def yX5_boundedRooms : MethodName := ⟨RX5, "boundedRooms", "()I"⟩
abbrev cX5_poly : ByteArray := prog_1_method_11_code
def yX5_poly : MethodName := ⟨RX5, "poly", "(I)I"⟩
abbrev cX5_without : ByteArray := prog_1_method_12_code
def yX5_without : MethodName := ⟨RX5, "without", "(II)I"⟩
abbrev cX5_on : ByteArray := prog_1_method_13_code
def yX5_on : MethodName := ⟨RX5, "on", "(II)I"⟩
abbrev cX5_walls : ByteArray := prog_1_method_14_code
def yX5_walls : MethodName := ⟨RX5, "walls", "(I)I"⟩
abbrev cX5_beside : ByteArray := prog_1_method_15_code
def yX5_beside : MethodName := ⟨RX5, "beside", "(II)I"⟩
abbrev cX5_way : ByteArray := prog_1_method_16_code
def yX5_way : MethodName := ⟨RX5, "way", "(II)I"⟩
abbrev cX5_step : ByteArray := prog_1_method_17_code
def yX5_step : MethodName := ⟨RX5, "step", "(II)I"⟩
abbrev cX5_far : ByteArray := prog_1_method_18_code
def yX5_far : MethodName := ⟨RX5, "far", "()I"⟩
abbrev cX5_left : ByteArray := prog_1_method_19_code
def yX5_left : MethodName := ⟨RX5, "left", "(I)I"⟩
abbrev cX5_count : ByteArray := prog_1_method_20_code
def yX5_count : MethodName := ⟨RX5, "count", "(I)I"⟩
abbrev cX5_freshCut : ByteArray := prog_1_method_21_code
def yX5_freshCut : MethodName := ⟨RX5, "freshCut", "()LSpaceWalls$Cut;"⟩
abbrev cX5_isTooFar : ByteArray := prog_1_method_22_code
def yX5_isTooFar : MethodName := ⟨RX5, "isTooFar", "(I)Z"⟩
abbrev cX5_isPrime : ByteArray := prog_1_method_23_code
def yX5_isPrime : MethodName := ⟨RX5, "isPrime", "(I)Z"⟩
abbrev cX5_parting : ByteArray := prog_1_method_24_code
def yX5_parting : MethodName := ⟨RX5, "parting", "(II)I"⟩
abbrev cX5_maskOf : ByteArray := prog_1_method_25_code
def yX5_maskOf : MethodName := ⟨RX5, "maskOf", "(II)I"⟩
abbrev cX5_onMask : ByteArray := prog_1_method_26_code
def yX5_onMask : MethodName := ⟨RX5, "onMask", "(I)I"⟩
abbrev cX5_aboveMask : ByteArray := prog_1_method_27_code
def yX5_aboveMask : MethodName := ⟨RX5, "aboveMask", "(I)I"⟩
abbrev cX5_across : ByteArray := prog_1_method_28_code
def yX5_across : MethodName := ⟨RX5, "across", "(II)I"⟩
def RX6 : String := "SpaceWallsModel"
def TX6 : u_T := fun k => match k with
  | 0 => ("SpaceWallsModel", "wide", "I", true)
  | 1 => ("SpaceWallsModel", "many", "I", false)
  | 2 => ("SpaceWallsModel", "walls", "[I", true)
  | 3 => ("SpaceWallsModel", "isFace", "[Z", true)
  | 4 => ("SpaceWallsModel", "isOld", "Z", false)
  | 5 => ("SpaceWallsModel", "sums", "[J", true)
  | 6 => ("SpaceWallsModel", "isEven", "[Z", true)
  | 7 => ("SpaceWallsModel", "sumMany", "I", false)
  | 8 => ("SpaceWallsModel", "next", "[J", true)
  | 9 => ("SpaceWallsModel", "nextEven", "[Z", true)
  | 10 => ("SpaceWallsModel", "nextMany", "I", false)
  | _ => ("SpaceWallsModel", "table", "[J", true)
def tyX6 : Nat → FieldType := fun k => match k with
  | 0 => .int
  | 1 => .int
  | 2 => .array .int
  | 3 => .array .boolean
  | 4 => .boolean
  | 5 => .array .long
  | 6 => .array .boolean
  | 7 => .int
  | 8 => .array .long
  | 9 => .array .boolean
  | 10 => .int
  | _ => .array .long
abbrev wsX60 : List Cond := u_ws RX6 TX6 12
theorem nmX6 : ∀ a, a < 12 → ∀ b, b < 12 → a ≠ b → (TX6 a).2.1 ≠ (TX6 b).2.1 := by decide +kernel
theorem tyX6_ok : ∀ k, k < 12 → parseFieldDescriptor (TX6 k).2.2.1 = some (tyX6 k) := by decide +kernel
abbrev cX6_init : ByteArray := prog_8_method_1_code
def yX6_init : MethodName := ⟨RX6, "<init>", "(I)V"⟩
abbrev cX6_in : ByteArray := prog_8_method_2_code
def yX6_in : MethodName := ⟨RX6, "in", "(III)Z"⟩
abbrev cX6_at : ByteArray := prog_8_method_3_code
def yX6_at : MethodName := ⟨RX6, "at", "(II)I"⟩
abbrev cX6_isSame : ByteArray := prog_8_method_4_code
def yX6_isSame : MethodName := ⟨RX6, "isSame", "(IIIII)Z"⟩
abbrev cX6_wall : ByteArray := prog_8_method_5_code
def yX6_wall : MethodName := ⟨RX6, "wall", "(IIII)I"⟩
abbrev cX6_take : ByteArray := prog_8_method_6_code
def yX6_take : MethodName := ⟨RX6, "take", "(I)Z"⟩
abbrev cX6_told : ByteArray := prog_8_method_7_code
def yX6_told : MethodName := ⟨RX6, "told", "(II)I"⟩
abbrev cX6_power : ByteArray := prog_8_method_8_code
def yX6_power : MethodName := ⟨RX6, "power", "(I)I"⟩
abbrev cX6_sign : ByteArray := prog_8_method_9_code
def yX6_sign : MethodName := ⟨RX6, "sign", "(II)I"⟩
abbrev cX6_row : ByteArray := prog_8_method_10_code
def yX6_row : MethodName := ⟨RX6, "row", "(III)I"⟩
abbrev cX6_begins : ByteArray := prog_8_method_11_code
def yX6_begins : MethodName := ⟨RX6, "begins", "()V"⟩
abbrev cX6_adds : ByteArray := prog_8_method_12_code
def yX6_adds : MethodName := ⟨RX6, "adds", "(II)V"⟩
abbrev cX6_puts : ByteArray := prog_8_method_13_code
def yX6_puts : MethodName := ⟨RX6, "puts", "(IJIJZ)V"⟩
abbrev cX6_size : ByteArray := prog_8_method_14_code
def yX6_size : MethodName := ⟨RX6, "size", "(J)J"⟩
abbrev cX6_takesOut : ByteArray := prog_8_method_15_code
def yX6_takesOut : MethodName := ⟨RX6, "takesOut", "(I)V"⟩
abbrev cX6_isThere : ByteArray := prog_8_method_16_code
def yX6_isThere : MethodName := ⟨RX6, "isThere", "(II)Z"⟩
abbrev cX6_works : ByteArray := prog_8_method_17_code
def yX6_works : MethodName := ⟨RX6, "works", "()V"⟩
abbrev cX6_isFace : ByteArray := prog_8_method_18_code
def yX6_isFace : MethodName := ⟨RX6, "isFace", "(I)Z"⟩
abbrev cX6_rank : ByteArray := prog_8_method_19_code
def yX6_rank : MethodName := ⟨RX6, "rank", "(II)I"⟩
abbrev cX6_meets : ByteArray := prog_8_method_20_code
def yX6_meets : MethodName := ⟨RX6, "meets", "(I)Z"⟩
abbrev cX6_onWalls : ByteArray := prog_8_method_21_code
def yX6_onWalls : MethodName := ⟨RX6, "onWalls", "(I)I"⟩
abbrev cX6_width : ByteArray := prog_8_method_22_code
def yX6_width : MethodName := ⟨RX6, "width", "(I)I"⟩
abbrev cX6_faces : ByteArray := prog_8_method_23_code
def yX6_faces : MethodName := ⟨RX6, "faces", "(I)I"⟩
abbrev cX6_face : ByteArray := prog_8_method_24_code
def yX6_face : MethodName := ⟨RX6, "face", "(II)I"⟩
abbrev cX6_isRoom : ByteArray := prog_8_method_25_code
def yX6_isRoom : MethodName := ⟨RX6, "isRoom", "(I)Z"⟩
abbrev cX6_leadsOn : ByteArray := prog_8_method_26_code
def yX6_leadsOn : MethodName := ⟨RX6, "leadsOn", "(IIII)Z"⟩
abbrev cX6_leadsEither : ByteArray := prog_8_method_27_code
def yX6_leadsEither : MethodName := ⟨RX6, "leadsEither", "(IIII)Z"⟩
abbrev cX6_bounded : ByteArray := prog_8_method_28_code
def yX6_bounded : MethodName := ⟨RX6, "bounded", "(I)Z"⟩
abbrev cX6_boundedRooms : ByteArray := prog_8_method_29_code
def yX6_boundedRooms : MethodName := ⟨RX6, "boundedRooms", "()I"⟩
abbrev cX6_odd : ByteArray := prog_8_method_30_code
def yX6_odd : MethodName := ⟨RX6, "odd", "(I)I"⟩
abbrev cX6_polynomial : ByteArray := prog_8_method_31_code
def yX6_polynomial : MethodName := ⟨RX6, "polynomial", "(II)I"⟩
abbrev cX6_poly : ByteArray := prog_8_method_32_code
def yX6_poly : MethodName := ⟨RX6, "poly", "(I)I"⟩
abbrev cX6_without : ByteArray := prog_8_method_33_code
def yX6_without : MethodName := ⟨RX6, "without", "(II)I"⟩
abbrev cX6_on : ByteArray := prog_8_method_34_code
def yX6_on : MethodName := ⟨RX6, "on", "(II)I"⟩
abbrev cX6_across : ByteArray := prog_8_method_35_code
def yX6_across : MethodName := ⟨RX6, "across", "(II)I"⟩
abbrev cX6_walls : ByteArray := prog_8_method_36_code
def yX6_walls : MethodName := ⟨RX6, "walls", "(I)I"⟩
abbrev cX6_beside : ByteArray := prog_8_method_37_code
def yX6_beside : MethodName := ⟨RX6, "beside", "(II)I"⟩
abbrev cX6_parted : ByteArray := prog_8_method_38_code
def yX6_parted : MethodName := ⟨RX6, "parted", "(II)I"⟩
abbrev cX6_bits : ByteArray := prog_8_method_39_code
def yX6_bits : MethodName := ⟨RX6, "bits", "(I)I"⟩
abbrev cX6_way : ByteArray := prog_8_method_40_code
def yX6_way : MethodName := ⟨RX6, "way", "(II)I"⟩
abbrev cX6_step : ByteArray := prog_8_method_41_code
def yX6_step : MethodName := ⟨RX6, "step", "(II)I"⟩
abbrev cX6_far : ByteArray := prog_8_method_42_code
def yX6_far : MethodName := ⟨RX6, "far", "()I"⟩
abbrev cX6_left : ByteArray := prog_8_method_43_code
def yX6_left : MethodName := ⟨RX6, "left", "(I)I"⟩
abbrev cX6_count : ByteArray := prog_8_method_44_code
def yX6_count : MethodName := ⟨RX6, "count", "(I)I"⟩
def RJ6 : String := "java/lang/Integer"
def TJ6 : u_T := fun k => match k with
  | _ => ("", "", "", false)
def tyJ6 : Nat → FieldType := fun k => match k with
  | _ => .int
abbrev wsJ60 : List Cond := u_ws RJ6 TJ6 0
theorem nmJ6 : ∀ a, a < 0 → ∀ b, b < 0 → a ≠ b → (TJ6 a).2.1 ≠ (TJ6 b).2.1 := by decide +kernel
theorem tyJ6_ok : ∀ k, k < 0 → parseFieldDescriptor (TJ6 k).2.2.1 = some (tyJ6 k) := by decide +kernel
abbrev cJ6_bitCount_0f7a4 : ByteArray := prog_9_method_49_code
def yJ6_bitCount_0f7a4 : MethodName := ⟨RJ6, "bitCount", "(I)I"⟩
def RJ9 : String := "java/lang/Math"
def TJ9 : u_T := fun k => match k with
  | _ => ("", "", "", false)
def tyJ9 : Nat → FieldType := fun k => match k with
  | _ => .int
abbrev wsJ90 : List Cond := u_ws RJ9 TJ9 0
theorem nmJ9 : ∀ a, a < 0 → ∀ b, b < 0 → a ≠ b → (TJ9 a).2.1 ≠ (TJ9 b).2.1 := by decide +kernel
theorem tyJ9_ok : ∀ k, k < 0 → parseFieldDescriptor (TJ9 k).2.2.1 = some (tyJ9 k) := by decide +kernel
abbrev cJ9_floorMod_7cf53 : ByteArray := prog_10_method_50_code
def yJ9_floorMod_7cf53 : MethodName := ⟨RJ9, "floorMod", "(II)I"⟩
abbrev cJ9_abs_0f7a4 : ByteArray := prog_10_method_59_code
def yJ9_abs_0f7a4 : MethodName := ⟨RJ9, "abs", "(I)I"⟩
abbrev cJ9_max_7cf53 : ByteArray := prog_10_method_65_code
def yJ9_max_7cf53 : MethodName := ⟨RJ9, "max", "(II)I"⟩
abbrev cJ9_min_7cf53 : ByteArray := prog_10_method_69_code
def yJ9_min_7cf53 : MethodName := ⟨RJ9, "min", "(II)I"⟩
def RJ7 : String := "java/util/Arrays"
def TJ7 : u_T := fun k => match k with
  | _ => ("", "", "", false)
def tyJ7 : Nat → FieldType := fun k => match k with
  | _ => .int
abbrev wsJ70 : List Cond := u_ws RJ7 TJ7 0
theorem nmJ7 : ∀ a, a < 0 → ∀ b, b < 0 → a ≠ b → (TJ7 a).2.1 ≠ (TJ7 b).2.1 := by decide +kernel
theorem tyJ7_ok : ∀ k, k < 0 → parseFieldDescriptor (TJ7 k).2.2.1 = some (tyJ7 k) := by decide +kernel
abbrev cJ7_fill_53178 : ByteArray := prog_11_method_103_code
def yJ7_fill_53178 : MethodName := ⟨RJ7, "fill", "([II)V"⟩
def RL : String := "SpaceWallsLaw"
abbrev cL_cell : ByteArray := method_2_code
def yL_cell : MethodName := ⟨RL, "cell", "([II)I"⟩
abbrev cL_law : ByteArray := code
def yL_law : MethodName := ⟨RL, "law", "([I)Z"⟩
def wsX0_init : List Cond := .code yX0_init cX0_init 1 none :: ([.methodLink RX0 1 objectInit, .instanceMethod objectInit, .code objectInit ⟨#[0xb1]⟩ 1 none])
def wsX0_set : List Cond := .code yX0_set cX0_set 4 none :: ([.fieldLink RX0 29 "SpaceWalls$Arrow" "x" "I", .fieldLink RX0 33 "SpaceWalls$Arrow" "y" "I", .fieldLink RX0 36 "SpaceWalls$Arrow" "z" "I"] ++ wsX00)
def wsX0_crossWith : List Cond := .code yX0_crossWith cX0_crossWith 6 none :: ([.fieldLink RX0 33 "SpaceWalls$Arrow" "y" "I", .fieldLink RX0 36 "SpaceWalls$Arrow" "z" "I", .fieldLink RX0 29 "SpaceWalls$Arrow" "x" "I", .methodLink RX0 19 yX0_set, .instanceMethod yX0_set, .selects RX0 yX0_set yX0_set, .initialized RX0, .code yX0_set cX0_set 4 none] ++ wsX30 ++ wsX00)
def wsX0_alongBoth : List Cond := .code yX0_alongBoth cX0_alongBoth 4 none :: ([.methodLink RX0 19 yX0_set, .instanceMethod yX0_set, .selects RX0 yX0_set yX0_set, .initialized RX0, .code yX0_set cX0_set 4 none, .fieldLink RX0 29 "SpaceWalls$Arrow" "x" "I", .fieldLink RX0 33 "SpaceWalls$Arrow" "y" "I", .fieldLink RX0 36 "SpaceWalls$Arrow" "z" "I", .methodLink RX0 25 yX0_crossWith, .instanceMethod yX0_crossWith, .selects RX0 yX0_crossWith yX0_crossWith, .code yX0_crossWith cX0_crossWith 6 none] ++ wsX30 ++ wsX00)
def wsX0_climb : List Cond := .code yX0_climb cX0_climb 3 (some .int) :: ([.fieldLink RX0 29 "SpaceWalls$Arrow" "x" "I", .fieldLink RX0 33 "SpaceWalls$Arrow" "y" "I", .fieldLink RX0 36 "SpaceWalls$Arrow" "z" "I"] ++ wsX30 ++ wsX00)
def wsX0_isNothing : List Cond := .code yX0_isNothing cX0_isNothing 1 (some .boolean) :: ([.fieldLink RX0 29 "SpaceWalls$Arrow" "x" "I", .fieldLink RX0 33 "SpaceWalls$Arrow" "y" "I", .fieldLink RX0 36 "SpaceWalls$Arrow" "z" "I"] ++ wsX00)
def wsX1_init : List Cond := .code yX1_init cX1_init 3 none :: ([.methodLink RX1 3 objectInit, .instanceMethod objectInit, .code objectInit ⟨#[0xb1]⟩ 1 none, .arrayClass .int, .fieldLink RX1 9 "SpaceWalls$Cut" "marks" "[I", .fieldLink RX1 15 "SpaceWalls$Cut" "reached" "[I", .fieldLink RX1 18 "SpaceWalls$Cut" "rows" "[I", .fieldLink RX1 21 "SpaceWalls$Cut" "widths" "[I", .fieldLink RX1 24 "SpaceWalls$Cut" "lineAbove" "[I", .fieldLink RX1 27 "SpaceWalls$Cut" "lineBelow" "[I", .classLink RX1 30 RX0, .instantiable RX0 3, .initialized RX0, .fieldLink RX1 33 "SpaceWalls$Cut" "first" "LSpaceWalls$Arrow;", .fieldLink RX1 37 "SpaceWalls$Cut" "second" "LSpaceWalls$Arrow;", .fieldLink RX1 40 "SpaceWalls$Cut" "third" "LSpaceWalls$Arrow;", .fieldLink RX1 43 "SpaceWalls$Cut" "planes" "LSpaceWalls$Planes;", .fieldLink RX1 47 "SpaceWalls$Cut" "heaps" "LSpaceWalls$Heaps;", .fieldLink RX1 51 "SpaceWalls$Cut" "found" "I", .fieldLink RX1 55 "SpaceWalls$Cut" "lines" "I", .instanceMethod yX0_init, .code yX0_init cX0_init 1 none, .methodLink RX0 1 objectInit] ++ wsX10 ++ wsX00)
def wsJ7_fill_53178 : List Cond := .code yJ7_fill_53178 cJ7_fill_53178 4 none :: ([])
def wsX2_forgetCommon : List Cond := .code yX2_forgetCommon cX2_forgetCommon 2 none :: ([.fieldLink RX2 15 "SpaceWalls$Heaps" "common" "[Z"] ++ wsX20)
def wsX2_rankWith_r1 : List Cond := [Cond.fieldLink RX2 9 "SpaceWalls$Heaps" "rank" "[I", Cond.fieldLink RX2 31 "SpaceWalls$Heaps" "key" "LSpaceWalls$Arrow;", Cond.fieldLink RX2 19 "SpaceWalls$Heaps" "keyX" "[I", Cond.fieldLink RX2 22 "SpaceWalls$Heaps" "keyY" "[I", Cond.fieldLink RX2 25 "SpaceWalls$Heaps" "keyZ" "[I", Cond.fieldLink RX2 35 "SpaceWalls$Heaps" "planes" "LSpaceWalls$Planes;", Cond.methodLink RX2 49 yX0_set, Cond.instanceMethod yX0_set, Cond.selects RX0 yX0_set yX0_set, Cond.initialized RX0, Cond.code yX0_set cX0_set 4 none, Cond.fieldLink RX0 29 "SpaceWalls$Arrow" "x" "I", Cond.fieldLink RX0 33 "SpaceWalls$Arrow" "y" "I", Cond.fieldLink RX0 36 "SpaceWalls$Arrow" "z" "I", Cond.methodLink RX2 62 yX0_crossWith, Cond.instanceMethod yX0_crossWith, Cond.selects RX0 yX0_crossWith yX0_crossWith, Cond.code yX0_crossWith cX0_crossWith 6 none, Cond.methodLink RX0 19 yX0_set, Cond.methodLink RX2 66 yX0_isNothing, Cond.instanceMethod yX0_isNothing, Cond.selects RX0 yX0_isNothing yX0_isNothing, Cond.code yX0_isNothing cX0_isNothing 1 (some .boolean), Cond.methodLink RX2 70 yX0_climb]
def wsX2_rankWith_r2 : List Cond := [Cond.instanceMethod yX0_climb, Cond.selects RX0 yX0_climb yX0_climb, Cond.code yX0_climb cX0_climb 3 (some .int)]
def wsX2_rankWith : List Cond := .code yX2_rankWith cX2_rankWith 6 none :: ((wsX2_rankWith_r1 ++ wsX2_rankWith_r2) ++ wsX20 ++ wsX30 ++ wsX00)
def wsX2_rankAnew_r1 : List Cond := [Cond.fieldLink RX2 35 "SpaceWalls$Heaps" "planes" "LSpaceWalls$Planes;", Cond.methodLink RX2 45 yX2_rankWith, Cond.instanceMethod yX2_rankWith, Cond.selects RX2 yX2_rankWith yX2_rankWith, Cond.initialized RX2, Cond.code yX2_rankWith cX2_rankWith 6 none, Cond.fieldLink RX2 9 "SpaceWalls$Heaps" "rank" "[I", Cond.fieldLink RX2 31 "SpaceWalls$Heaps" "key" "LSpaceWalls$Arrow;", Cond.fieldLink RX2 19 "SpaceWalls$Heaps" "keyX" "[I", Cond.fieldLink RX2 22 "SpaceWalls$Heaps" "keyY" "[I", Cond.fieldLink RX2 25 "SpaceWalls$Heaps" "keyZ" "[I", Cond.methodLink RX2 49 yX0_set, Cond.instanceMethod yX0_set, Cond.selects RX0 yX0_set yX0_set, Cond.initialized RX0, Cond.code yX0_set cX0_set 4 none, Cond.fieldLink RX0 29 "SpaceWalls$Arrow" "x" "I", Cond.fieldLink RX0 33 "SpaceWalls$Arrow" "y" "I", Cond.fieldLink RX0 36 "SpaceWalls$Arrow" "z" "I", Cond.methodLink RX2 62 yX0_crossWith, Cond.instanceMethod yX0_crossWith, Cond.selects RX0 yX0_crossWith yX0_crossWith, Cond.code yX0_crossWith cX0_crossWith 6 none, Cond.methodLink RX0 19 yX0_set]
def wsX2_rankAnew_r2 : List Cond := [Cond.methodLink RX2 66 yX0_isNothing, Cond.instanceMethod yX0_isNothing, Cond.selects RX0 yX0_isNothing yX0_isNothing, Cond.code yX0_isNothing cX0_isNothing 1 (some .boolean), Cond.methodLink RX2 70 yX0_climb, Cond.instanceMethod yX0_climb, Cond.selects RX0 yX0_climb yX0_climb, Cond.code yX0_climb cX0_climb 3 (some .int)]
def wsX2_rankAnew : List Cond := .code yX2_rankAnew cX2_rankAnew 3 none :: ((wsX2_rankAnew_r1 ++ wsX2_rankAnew_r2) ++ wsX20 ++ wsX30 ++ wsX00)
def wsX2_rankOfAll : List Cond := .code yX2_rankOfAll cX2_rankOfAll 1 (some .int) :: ([.fieldLink RX2 9 "SpaceWalls$Heaps" "rank" "[I", .fieldLink RX2 35 "SpaceWalls$Heaps" "planes" "LSpaceWalls$Planes;"] ++ wsX20 ++ wsX30)
def wsX3_indexOf : List Cond := .code yX3_indexOf cX3_indexOf 2 (some .int) :: ([.fieldLink RX3 31 "SpaceWalls$Planes" "size" "I", .methodLink RX3 45 Lib.Math.min.name, .static Lib.Math.min.name, .initialized "java/lang/Math", .code Lib.Math.min.name Lib.Math.min.code 2 (some .int)] ++ wsX30)
def wsX3_signs : List Cond := .code yX3_signs cX3_signs 8 (some .int) :: ([.fieldLink RX3 31 "SpaceWalls$Planes" "size" "I", .fieldLink RX3 9 "SpaceWalls$Planes" "a" "[I", .fieldLink RX3 15 "SpaceWalls$Planes" "b" "[I", .fieldLink RX3 18 "SpaceWalls$Planes" "c" "[I", .fieldLink RX3 21 "SpaceWalls$Planes" "e" "[I"] ++ wsX30)
def wsX5_onMask : List Cond := .code yX5_onMask cX5_onMask 1 (some .int) :: ([])
def wsX5_aboveMask : List Cond := .code yX5_aboveMask cX5_aboveMask 1 (some .int) :: ([])
def wsX1_noteLine : List Cond := .code yX1_noteLine cX1_noteLine 5 none :: ([.fieldLink RX1 43 "SpaceWalls$Cut" "planes" "LSpaceWalls$Planes;", .fieldLink RX1 33 "SpaceWalls$Cut" "first" "LSpaceWalls$Arrow;", .fieldLink RX1 55 "SpaceWalls$Cut" "lines" "I", .fieldLink RX1 24 "SpaceWalls$Cut" "lineAbove" "[I", .fieldLink RX1 27 "SpaceWalls$Cut" "lineBelow" "[I", .methodLink RX1 122 yX3_signs, .instanceMethod yX3_signs, .selects RX3 yX3_signs yX3_signs, .initialized RX3, .code yX3_signs cX3_signs 8 (some .int), .fieldLink RX3 31 "SpaceWalls$Planes" "size" "I", .fieldLink RX3 9 "SpaceWalls$Planes" "a" "[I", .fieldLink RX3 15 "SpaceWalls$Planes" "b" "[I", .fieldLink RX3 18 "SpaceWalls$Planes" "c" "[I", .fieldLink RX3 21 "SpaceWalls$Planes" "e" "[I", .static yX5_onMask, .initialized RX5, .code yX5_onMask cX5_onMask 1 (some .int), .static yX5_aboveMask, .code yX5_aboveMask cX5_aboveMask 1 (some .int)] ++ wsX10 ++ wsX30 ++ wsX00)
def wsX3_rowOf : List Cond := .code yX3_rowOf cX3_rowOf 2 (some .int) :: ([.fieldLink RX3 24 "SpaceWalls$Planes" "threes" "[I", .static yX5_onMask, .initialized RX5, .code yX5_onMask cX5_onMask 1 (some .int), .static yX5_aboveMask, .code yX5_aboveMask cX5_aboveMask 1 (some .int)] ++ wsX30)
def wsX1_isMarked : List Cond := .code yX1_isMarked cX1_isMarked 2 (some .boolean) :: ([.fieldLink RX1 9 "SpaceWalls$Cut" "marks" "[I"] ++ wsX10)
def wsX1_reach : List Cond := .code yX1_reach cX1_reach 3 none :: ([.fieldLink RX1 43 "SpaceWalls$Cut" "planes" "LSpaceWalls$Planes;", .fieldLink RX1 51 "SpaceWalls$Cut" "found" "I", .fieldLink RX1 9 "SpaceWalls$Cut" "marks" "[I", .fieldLink RX1 15 "SpaceWalls$Cut" "reached" "[I", .fieldLink RX1 47 "SpaceWalls$Cut" "heaps" "LSpaceWalls$Heaps;", .methodLink RX1 142 yX3_rowOf, .instanceMethod yX3_rowOf, .selects RX3 yX3_rowOf yX3_rowOf, .initialized RX3, .code yX3_rowOf cX3_rowOf 2 (some .int), .fieldLink RX3 24 "SpaceWalls$Planes" "threes" "[I", .static yX5_onMask, .initialized RX5, .code yX5_onMask cX5_onMask 1 (some .int), .static yX5_aboveMask, .code yX5_aboveMask cX5_aboveMask 1 (some .int), .methodLink RX1 145 yX1_isMarked, .instanceMethod yX1_isMarked, .selects RX1 yX1_isMarked yX1_isMarked, .initialized RX1, .code yX1_isMarked cX1_isMarked 2 (some .boolean)] ++ wsX10 ++ wsX20 ++ wsX30)
def wsX1_noteCorner_r1 : List Cond := [Cond.fieldLink RX1 33 "SpaceWalls$Cut" "first" "LSpaceWalls$Arrow;", Cond.fieldLink RX1 43 "SpaceWalls$Cut" "planes" "LSpaceWalls$Planes;", Cond.fieldLink RX1 37 "SpaceWalls$Cut" "second" "LSpaceWalls$Arrow;", Cond.fieldLink RX1 40 "SpaceWalls$Cut" "third" "LSpaceWalls$Arrow;", Cond.methodLink RX1 132 yX0_climb, Cond.instanceMethod yX0_climb, Cond.selects RX0 yX0_climb yX0_climb, Cond.initialized RX0, Cond.code yX0_climb cX0_climb 3 (some .int), Cond.fieldLink RX0 29 "SpaceWalls$Arrow" "x" "I", Cond.fieldLink RX0 33 "SpaceWalls$Arrow" "y" "I", Cond.fieldLink RX0 36 "SpaceWalls$Arrow" "z" "I", Cond.methodLink RX1 98 yX0_alongBoth, Cond.instanceMethod yX0_alongBoth, Cond.selects RX0 yX0_alongBoth yX0_alongBoth, Cond.code yX0_alongBoth cX0_alongBoth 4 none, Cond.methodLink RX0 19 yX0_set, Cond.instanceMethod yX0_set, Cond.selects RX0 yX0_set yX0_set, Cond.code yX0_set cX0_set 4 none, Cond.methodLink RX0 25 yX0_crossWith, Cond.instanceMethod yX0_crossWith, Cond.selects RX0 yX0_crossWith yX0_crossWith, Cond.code yX0_crossWith cX0_crossWith 6 none]
def wsX1_noteCorner_r2 : List Cond := [Cond.methodLink RX1 122 yX3_signs, Cond.instanceMethod yX3_signs, Cond.selects RX3 yX3_signs yX3_signs, Cond.initialized RX3, Cond.code yX3_signs cX3_signs 8 (some .int), Cond.fieldLink RX3 31 "SpaceWalls$Planes" "size" "I", Cond.fieldLink RX3 9 "SpaceWalls$Planes" "a" "[I", Cond.fieldLink RX3 15 "SpaceWalls$Planes" "b" "[I", Cond.fieldLink RX3 18 "SpaceWalls$Planes" "c" "[I", Cond.fieldLink RX3 21 "SpaceWalls$Planes" "e" "[I", Cond.methodLink RX1 139 yX1_reach, Cond.instanceMethod yX1_reach, Cond.selects RX1 yX1_reach yX1_reach, Cond.initialized RX1, Cond.code yX1_reach cX1_reach 3 none, Cond.fieldLink RX1 51 "SpaceWalls$Cut" "found" "I", Cond.fieldLink RX1 9 "SpaceWalls$Cut" "marks" "[I", Cond.fieldLink RX1 15 "SpaceWalls$Cut" "reached" "[I", Cond.fieldLink RX1 47 "SpaceWalls$Cut" "heaps" "LSpaceWalls$Heaps;", Cond.methodLink RX1 142 yX3_rowOf, Cond.instanceMethod yX3_rowOf, Cond.selects RX3 yX3_rowOf yX3_rowOf, Cond.code yX3_rowOf cX3_rowOf 2 (some .int), Cond.fieldLink RX3 24 "SpaceWalls$Planes" "threes" "[I"]
def wsX1_noteCorner_r3 : List Cond := [Cond.static yX5_onMask, Cond.initialized RX5, Cond.code yX5_onMask cX5_onMask 1 (some .int), Cond.static yX5_aboveMask, Cond.code yX5_aboveMask cX5_aboveMask 1 (some .int), Cond.methodLink RX1 145 yX1_isMarked, Cond.instanceMethod yX1_isMarked, Cond.selects RX1 yX1_isMarked yX1_isMarked, Cond.code yX1_isMarked cX1_isMarked 2 (some .boolean)]
def wsX1_noteCorner : List Cond := .code yX1_noteCorner cX1_noteCorner 12 none :: ((wsX1_noteCorner_r1 ++ (wsX1_noteCorner_r2 ++ wsX1_noteCorner_r3)) ++ wsX10 ++ wsX30 ++ wsX00 ++ wsX20)
def wsX1_crossPlanes_r1 : List Cond := [Cond.fieldLink RX1 47 "SpaceWalls$Cut" "heaps" "LSpaceWalls$Heaps;", Cond.fieldLink RX1 43 "SpaceWalls$Cut" "planes" "LSpaceWalls$Planes;", Cond.fieldLink RX1 33 "SpaceWalls$Cut" "first" "LSpaceWalls$Arrow;", Cond.methodLink RX1 85 yX2_rankOfAll, Cond.instanceMethod yX2_rankOfAll, Cond.selects RX2 yX2_rankOfAll yX2_rankOfAll, Cond.initialized RX2, Cond.code yX2_rankOfAll cX2_rankOfAll 1 (some .int), Cond.fieldLink RX2 9 "SpaceWalls$Heaps" "rank" "[I", Cond.fieldLink RX2 35 "SpaceWalls$Heaps" "planes" "LSpaceWalls$Planes;", Cond.methodLink RX1 94 yX3_indexOf, Cond.instanceMethod yX3_indexOf, Cond.selects RX3 yX3_indexOf yX3_indexOf, Cond.initialized RX3, Cond.code yX3_indexOf cX3_indexOf 2 (some .int), Cond.fieldLink RX3 31 "SpaceWalls$Planes" "size" "I", Cond.methodLink RX3 45 Lib.Math.min.name, Cond.static Lib.Math.min.name, Cond.initialized "java/lang/Math", Cond.code Lib.Math.min.name Lib.Math.min.code 2 (some .int), Cond.methodLink RX1 98 yX0_alongBoth, Cond.instanceMethod yX0_alongBoth, Cond.selects RX0 yX0_alongBoth yX0_alongBoth, Cond.initialized RX0]
def wsX1_crossPlanes_r2 : List Cond := [Cond.code yX0_alongBoth cX0_alongBoth 4 none, Cond.methodLink RX0 19 yX0_set, Cond.instanceMethod yX0_set, Cond.selects RX0 yX0_set yX0_set, Cond.code yX0_set cX0_set 4 none, Cond.fieldLink RX0 29 "SpaceWalls$Arrow" "x" "I", Cond.fieldLink RX0 33 "SpaceWalls$Arrow" "y" "I", Cond.fieldLink RX0 36 "SpaceWalls$Arrow" "z" "I", Cond.methodLink RX0 25 yX0_crossWith, Cond.instanceMethod yX0_crossWith, Cond.selects RX0 yX0_crossWith yX0_crossWith, Cond.code yX0_crossWith cX0_crossWith 6 none, Cond.methodLink RX1 102 yX0_isNothing, Cond.instanceMethod yX0_isNothing, Cond.selects RX0 yX0_isNothing yX0_isNothing, Cond.code yX0_isNothing cX0_isNothing 1 (some .boolean), Cond.methodLink RX1 106 yX1_noteLine, Cond.instanceMethod yX1_noteLine, Cond.selects RX1 yX1_noteLine yX1_noteLine, Cond.initialized RX1, Cond.code yX1_noteLine cX1_noteLine 5 none, Cond.fieldLink RX1 55 "SpaceWalls$Cut" "lines" "I", Cond.fieldLink RX1 24 "SpaceWalls$Cut" "lineAbove" "[I", Cond.fieldLink RX1 27 "SpaceWalls$Cut" "lineBelow" "[I"]
def wsX1_crossPlanes_r3 : List Cond := [Cond.methodLink RX1 122 yX3_signs, Cond.instanceMethod yX3_signs, Cond.selects RX3 yX3_signs yX3_signs, Cond.code yX3_signs cX3_signs 8 (some .int), Cond.fieldLink RX3 9 "SpaceWalls$Planes" "a" "[I", Cond.fieldLink RX3 15 "SpaceWalls$Planes" "b" "[I", Cond.fieldLink RX3 18 "SpaceWalls$Planes" "c" "[I", Cond.fieldLink RX3 21 "SpaceWalls$Planes" "e" "[I", Cond.static yX5_onMask, Cond.initialized RX5, Cond.code yX5_onMask cX5_onMask 1 (some .int), Cond.static yX5_aboveMask, Cond.code yX5_aboveMask cX5_aboveMask 1 (some .int), Cond.methodLink RX1 109 yX1_noteCorner, Cond.instanceMethod yX1_noteCorner, Cond.selects RX1 yX1_noteCorner yX1_noteCorner, Cond.code yX1_noteCorner cX1_noteCorner 12 none, Cond.fieldLink RX1 37 "SpaceWalls$Cut" "second" "LSpaceWalls$Arrow;", Cond.fieldLink RX1 40 "SpaceWalls$Cut" "third" "LSpaceWalls$Arrow;", Cond.methodLink RX1 132 yX0_climb, Cond.instanceMethod yX0_climb, Cond.selects RX0 yX0_climb yX0_climb, Cond.code yX0_climb cX0_climb 3 (some .int), Cond.methodLink RX1 139 yX1_reach]
def wsX1_crossPlanes_r4 : List Cond := [Cond.instanceMethod yX1_reach, Cond.selects RX1 yX1_reach yX1_reach, Cond.code yX1_reach cX1_reach 3 none, Cond.fieldLink RX1 51 "SpaceWalls$Cut" "found" "I", Cond.fieldLink RX1 9 "SpaceWalls$Cut" "marks" "[I", Cond.fieldLink RX1 15 "SpaceWalls$Cut" "reached" "[I", Cond.methodLink RX1 142 yX3_rowOf, Cond.instanceMethod yX3_rowOf, Cond.selects RX3 yX3_rowOf yX3_rowOf, Cond.code yX3_rowOf cX3_rowOf 2 (some .int), Cond.fieldLink RX3 24 "SpaceWalls$Planes" "threes" "[I", Cond.methodLink RX1 145 yX1_isMarked, Cond.instanceMethod yX1_isMarked, Cond.selects RX1 yX1_isMarked yX1_isMarked, Cond.code yX1_isMarked cX1_isMarked 2 (some .boolean)]
def wsX1_crossPlanes : List Cond := .code yX1_crossPlanes cX1_crossPlanes 5 none :: ((wsX1_crossPlanes_r1 ++ (wsX1_crossPlanes_r2 ++ (wsX1_crossPlanes_r3 ++ wsX1_crossPlanes_r4))) ++ wsX10 ++ wsX30 ++ wsX20 ++ wsX00)
def wsX1_moveFrom_r1 : List Cond := [Cond.fieldLink RX1 55 "SpaceWalls$Cut" "lines" "I", Cond.fieldLink RX1 24 "SpaceWalls$Cut" "lineAbove" "[I", Cond.fieldLink RX1 27 "SpaceWalls$Cut" "lineBelow" "[I", Cond.fieldLink RX1 47 "SpaceWalls$Cut" "heaps" "LSpaceWalls$Heaps;", Cond.static yX5_onMask, Cond.initialized RX5, Cond.code yX5_onMask cX5_onMask 1 (some .int), Cond.static yX5_aboveMask, Cond.code yX5_aboveMask cX5_aboveMask 1 (some .int), Cond.methodLink RX1 139 yX1_reach, Cond.instanceMethod yX1_reach, Cond.selects RX1 yX1_reach yX1_reach, Cond.initialized RX1, Cond.code yX1_reach cX1_reach 3 none, Cond.fieldLink RX1 43 "SpaceWalls$Cut" "planes" "LSpaceWalls$Planes;", Cond.fieldLink RX1 51 "SpaceWalls$Cut" "found" "I", Cond.fieldLink RX1 9 "SpaceWalls$Cut" "marks" "[I", Cond.fieldLink RX1 15 "SpaceWalls$Cut" "reached" "[I", Cond.methodLink RX1 142 yX3_rowOf, Cond.instanceMethod yX3_rowOf, Cond.selects RX3 yX3_rowOf yX3_rowOf, Cond.initialized RX3, Cond.code yX3_rowOf cX3_rowOf 2 (some .int), Cond.fieldLink RX3 24 "SpaceWalls$Planes" "threes" "[I"]
def wsX1_moveFrom_r2 : List Cond := [Cond.methodLink RX1 145 yX1_isMarked, Cond.instanceMethod yX1_isMarked, Cond.selects RX1 yX1_isMarked yX1_isMarked, Cond.code yX1_isMarked cX1_isMarked 2 (some .boolean)]
def wsX1_moveFrom : List Cond := .code yX1_moveFrom cX1_moveFrom 6 none :: ((wsX1_moveFrom_r1 ++ wsX1_moveFrom_r2) ++ wsX10 ++ wsX20 ++ wsX30)
def wsX5_maskOf : List Cond := .code yX5_maskOf cX5_maskOf 5 (some .int) :: ([])
def wsX1_sortRows : List Cond := .code yX1_sortRows cX1_sortRows 3 none :: ([.fieldLink RX1 51 "SpaceWalls$Cut" "found" "I", .fieldLink RX1 18 "SpaceWalls$Cut" "rows" "[I", .fieldLink RX1 21 "SpaceWalls$Cut" "widths" "[I", .fieldLink RX1 43 "SpaceWalls$Cut" "planes" "LSpaceWalls$Planes;", .fieldLink RX1 47 "SpaceWalls$Cut" "heaps" "LSpaceWalls$Heaps;", .methodLink RX1 145 yX1_isMarked, .instanceMethod yX1_isMarked, .selects RX1 yX1_isMarked yX1_isMarked, .initialized RX1, .code yX1_isMarked cX1_isMarked 2 (some .boolean), .fieldLink RX1 9 "SpaceWalls$Cut" "marks" "[I", .static yX5_maskOf, .initialized RX5, .code yX5_maskOf cX5_maskOf 5 (some .int)] ++ wsX10 ++ wsX30 ++ wsX20)
def wsX2_shareDown : List Cond := .code yX2_shareDown cX2_shareDown 3 none :: ([.fieldLink RX2 35 "SpaceWalls$Heaps" "planes" "LSpaceWalls$Planes;", .fieldLink RX2 15 "SpaceWalls$Heaps" "common" "[Z"] ++ wsX20 ++ wsX30)
def wsX1_cutAnew_r1 : List Cond := [Cond.fieldLink RX1 9 "SpaceWalls$Cut" "marks" "[I", Cond.fieldLink RX1 51 "SpaceWalls$Cut" "found" "I", Cond.fieldLink RX1 55 "SpaceWalls$Cut" "lines" "I", Cond.fieldLink RX1 47 "SpaceWalls$Cut" "heaps" "LSpaceWalls$Heaps;", Cond.fieldLink RX1 15 "SpaceWalls$Cut" "reached" "[I", Cond.methodLink RX1 58 yJ7_fill_53178, Cond.static yJ7_fill_53178, Cond.initialized RJ7, Cond.code yJ7_fill_53178 cJ7_fill_53178 4 none, Cond.methodLink RX1 64 yX2_forgetCommon, Cond.instanceMethod yX2_forgetCommon, Cond.selects RX2 yX2_forgetCommon yX2_forgetCommon, Cond.initialized RX2, Cond.code yX2_forgetCommon cX2_forgetCommon 2 none, Cond.fieldLink RX2 15 "SpaceWalls$Heaps" "common" "[Z", Cond.methodLink RX1 69 yX2_rankAnew, Cond.instanceMethod yX2_rankAnew, Cond.selects RX2 yX2_rankAnew yX2_rankAnew, Cond.code yX2_rankAnew cX2_rankAnew 3 none, Cond.fieldLink RX2 35 "SpaceWalls$Heaps" "planes" "LSpaceWalls$Planes;", Cond.methodLink RX2 45 yX2_rankWith, Cond.instanceMethod yX2_rankWith, Cond.selects RX2 yX2_rankWith yX2_rankWith, Cond.code yX2_rankWith cX2_rankWith 6 none]
def wsX1_cutAnew_r2 : List Cond := [Cond.fieldLink RX2 9 "SpaceWalls$Heaps" "rank" "[I", Cond.fieldLink RX2 31 "SpaceWalls$Heaps" "key" "LSpaceWalls$Arrow;", Cond.fieldLink RX2 19 "SpaceWalls$Heaps" "keyX" "[I", Cond.fieldLink RX2 22 "SpaceWalls$Heaps" "keyY" "[I", Cond.fieldLink RX2 25 "SpaceWalls$Heaps" "keyZ" "[I", Cond.methodLink RX2 49 yX0_set, Cond.instanceMethod yX0_set, Cond.selects RX0 yX0_set yX0_set, Cond.initialized RX0, Cond.code yX0_set cX0_set 4 none, Cond.fieldLink RX0 29 "SpaceWalls$Arrow" "x" "I", Cond.fieldLink RX0 33 "SpaceWalls$Arrow" "y" "I", Cond.fieldLink RX0 36 "SpaceWalls$Arrow" "z" "I", Cond.methodLink RX2 62 yX0_crossWith, Cond.instanceMethod yX0_crossWith, Cond.selects RX0 yX0_crossWith yX0_crossWith, Cond.code yX0_crossWith cX0_crossWith 6 none, Cond.methodLink RX0 19 yX0_set, Cond.methodLink RX2 66 yX0_isNothing, Cond.instanceMethod yX0_isNothing, Cond.selects RX0 yX0_isNothing yX0_isNothing, Cond.code yX0_isNothing cX0_isNothing 1 (some .boolean), Cond.methodLink RX2 70 yX0_climb, Cond.instanceMethod yX0_climb]
def wsX1_cutAnew_r3 : List Cond := [Cond.selects RX0 yX0_climb yX0_climb, Cond.code yX0_climb cX0_climb 3 (some .int), Cond.methodLink RX1 72 yX1_crossPlanes, Cond.instanceMethod yX1_crossPlanes, Cond.selects RX1 yX1_crossPlanes yX1_crossPlanes, Cond.initialized RX1, Cond.code yX1_crossPlanes cX1_crossPlanes 5 none, Cond.fieldLink RX1 43 "SpaceWalls$Cut" "planes" "LSpaceWalls$Planes;", Cond.fieldLink RX1 33 "SpaceWalls$Cut" "first" "LSpaceWalls$Arrow;", Cond.methodLink RX1 85 yX2_rankOfAll, Cond.instanceMethod yX2_rankOfAll, Cond.selects RX2 yX2_rankOfAll yX2_rankOfAll, Cond.code yX2_rankOfAll cX2_rankOfAll 1 (some .int), Cond.methodLink RX1 94 yX3_indexOf, Cond.instanceMethod yX3_indexOf, Cond.selects RX3 yX3_indexOf yX3_indexOf, Cond.initialized RX3, Cond.code yX3_indexOf cX3_indexOf 2 (some .int), Cond.fieldLink RX3 31 "SpaceWalls$Planes" "size" "I", Cond.methodLink RX3 45 Lib.Math.min.name, Cond.static Lib.Math.min.name, Cond.initialized "java/lang/Math", Cond.code Lib.Math.min.name Lib.Math.min.code 2 (some .int), Cond.methodLink RX1 98 yX0_alongBoth]
def wsX1_cutAnew_r4 : List Cond := [Cond.instanceMethod yX0_alongBoth, Cond.selects RX0 yX0_alongBoth yX0_alongBoth, Cond.code yX0_alongBoth cX0_alongBoth 4 none, Cond.methodLink RX0 25 yX0_crossWith, Cond.methodLink RX1 102 yX0_isNothing, Cond.methodLink RX1 106 yX1_noteLine, Cond.instanceMethod yX1_noteLine, Cond.selects RX1 yX1_noteLine yX1_noteLine, Cond.code yX1_noteLine cX1_noteLine 5 none, Cond.fieldLink RX1 24 "SpaceWalls$Cut" "lineAbove" "[I", Cond.fieldLink RX1 27 "SpaceWalls$Cut" "lineBelow" "[I", Cond.methodLink RX1 122 yX3_signs, Cond.instanceMethod yX3_signs, Cond.selects RX3 yX3_signs yX3_signs, Cond.code yX3_signs cX3_signs 8 (some .int), Cond.fieldLink RX3 9 "SpaceWalls$Planes" "a" "[I", Cond.fieldLink RX3 15 "SpaceWalls$Planes" "b" "[I", Cond.fieldLink RX3 18 "SpaceWalls$Planes" "c" "[I", Cond.fieldLink RX3 21 "SpaceWalls$Planes" "e" "[I", Cond.static yX5_onMask, Cond.initialized RX5, Cond.code yX5_onMask cX5_onMask 1 (some .int), Cond.static yX5_aboveMask, Cond.code yX5_aboveMask cX5_aboveMask 1 (some .int)]
def wsX1_cutAnew_r5 : List Cond := [Cond.methodLink RX1 109 yX1_noteCorner, Cond.instanceMethod yX1_noteCorner, Cond.selects RX1 yX1_noteCorner yX1_noteCorner, Cond.code yX1_noteCorner cX1_noteCorner 12 none, Cond.fieldLink RX1 37 "SpaceWalls$Cut" "second" "LSpaceWalls$Arrow;", Cond.fieldLink RX1 40 "SpaceWalls$Cut" "third" "LSpaceWalls$Arrow;", Cond.methodLink RX1 132 yX0_climb, Cond.methodLink RX1 139 yX1_reach, Cond.instanceMethod yX1_reach, Cond.selects RX1 yX1_reach yX1_reach, Cond.code yX1_reach cX1_reach 3 none, Cond.methodLink RX1 142 yX3_rowOf, Cond.instanceMethod yX3_rowOf, Cond.selects RX3 yX3_rowOf yX3_rowOf, Cond.code yX3_rowOf cX3_rowOf 2 (some .int), Cond.fieldLink RX3 24 "SpaceWalls$Planes" "threes" "[I", Cond.methodLink RX1 145 yX1_isMarked, Cond.instanceMethod yX1_isMarked, Cond.selects RX1 yX1_isMarked yX1_isMarked, Cond.code yX1_isMarked cX1_isMarked 2 (some .boolean), Cond.methodLink RX1 75 yX1_moveFrom, Cond.instanceMethod yX1_moveFrom, Cond.selects RX1 yX1_moveFrom yX1_moveFrom, Cond.code yX1_moveFrom cX1_moveFrom 6 none]
def wsX1_cutAnew_r6 : List Cond := [Cond.methodLink RX1 79 yX1_sortRows, Cond.instanceMethod yX1_sortRows, Cond.selects RX1 yX1_sortRows yX1_sortRows, Cond.code yX1_sortRows cX1_sortRows 3 none, Cond.fieldLink RX1 18 "SpaceWalls$Cut" "rows" "[I", Cond.fieldLink RX1 21 "SpaceWalls$Cut" "widths" "[I", Cond.static yX5_maskOf, Cond.code yX5_maskOf cX5_maskOf 5 (some .int), Cond.methodLink RX1 82 yX2_shareDown, Cond.instanceMethod yX2_shareDown, Cond.selects RX2 yX2_shareDown yX2_shareDown, Cond.code yX2_shareDown cX2_shareDown 3 none]
def wsX1_cutAnew : List Cond := .code yX1_cutAnew cX1_cutAnew 2 none :: ((wsX1_cutAnew_r1 ++ (wsX1_cutAnew_r2 ++ (wsX1_cutAnew_r3 ++ (wsX1_cutAnew_r4 ++ (wsX1_cutAnew_r5 ++ wsX1_cutAnew_r6))))) ++ wsX10 ++ wsX20 ++ wsX30 ++ wsX00)
def wsX1_hasFace : List Cond := .code yX1_hasFace cX1_hasFace 2 (some .boolean) :: ([.methodLink RX1 145 yX1_isMarked, .instanceMethod yX1_isMarked, .selects RX1 yX1_isMarked yX1_isMarked, .initialized RX1, .code yX1_isMarked cX1_isMarked 2 (some .boolean), .fieldLink RX1 9 "SpaceWalls$Cut" "marks" "[I"] ++ wsX10)
def wsX1_hasRoom : List Cond := .code yX1_hasRoom cX1_hasRoom 2 (some .boolean) :: ([.methodLink RX1 163 yX1_hasFace, .instanceMethod yX1_hasFace, .selects RX1 yX1_hasFace yX1_hasFace, .initialized RX1, .code yX1_hasFace cX1_hasFace 2 (some .boolean), .methodLink RX1 145 yX1_isMarked, .instanceMethod yX1_isMarked, .selects RX1 yX1_isMarked yX1_isMarked, .code yX1_isMarked cX1_isMarked 2 (some .boolean), .fieldLink RX1 9 "SpaceWalls$Cut" "marks" "[I", .static yX5_maskOf, .initialized RX5, .code yX5_maskOf cX5_maskOf 5 (some .int)] ++ wsX10)
def wsX1_countOfWidth : List Cond := .code yX1_countOfWidth cX1_countOfWidth 4 (some .int) :: ([.fieldLink RX1 51 "SpaceWalls$Cut" "found" "I", .fieldLink RX1 21 "SpaceWalls$Cut" "widths" "[I"] ++ wsX10)
def wsX1_rowOfWidth : List Cond := .code yX1_rowOfWidth cX1_rowOfWidth 5 (some .int) :: ([.fieldLink RX1 51 "SpaceWalls$Cut" "found" "I", .fieldLink RX1 21 "SpaceWalls$Cut" "widths" "[I", .fieldLink RX1 18 "SpaceWalls$Cut" "rows" "[I"] ++ wsX10)
def wsX5_across : List Cond := .code yX5_across cX5_across 3 (some .int) :: ([.fieldLink RX5 168 "SpaceWalls" "POWERS" "[I"])
def wsX1_wallsOf : List Cond := .code yX1_wallsOf cX1_wallsOf 4 (some .int) :: ([.fieldLink RX1 43 "SpaceWalls$Cut" "planes" "LSpaceWalls$Planes;", .static yX5_across, .initialized RX5, .code yX5_across cX5_across 3 (some .int), .fieldLink RX5 168 "SpaceWalls" "POWERS" "[I", .methodLink RX1 169 yX1_hasRoom, .instanceMethod yX1_hasRoom, .selects RX1 yX1_hasRoom yX1_hasRoom, .initialized RX1, .code yX1_hasRoom cX1_hasRoom 2 (some .boolean), .methodLink RX1 163 yX1_hasFace, .instanceMethod yX1_hasFace, .selects RX1 yX1_hasFace yX1_hasFace, .code yX1_hasFace cX1_hasFace 2 (some .boolean), .methodLink RX1 145 yX1_isMarked, .instanceMethod yX1_isMarked, .selects RX1 yX1_isMarked yX1_isMarked, .code yX1_isMarked cX1_isMarked 2 (some .boolean), .fieldLink RX1 9 "SpaceWalls$Cut" "marks" "[I", .static yX5_maskOf, .code yX5_maskOf cX5_maskOf 5 (some .int)] ++ wsX10 ++ wsX30)
def wsX1_isOpen : List Cond := .code yX1_isOpen cX1_isOpen 5 (some .boolean) :: ([.fieldLink RX1 55 "SpaceWalls$Cut" "lines" "I", .fieldLink RX1 24 "SpaceWalls$Cut" "lineAbove" "[I", .fieldLink RX1 27 "SpaceWalls$Cut" "lineBelow" "[I"] ++ wsX10)
def wsX2_init : List Cond := .code yX2_init cX2_init 2 none :: ([.methodLink RX2 3 objectInit, .instanceMethod objectInit, .code objectInit ⟨#[0xb1]⟩ 1 none, .arrayClass .int, .fieldLink RX2 9 "SpaceWalls$Heaps" "rank" "[I", .arrayClass .boolean, .fieldLink RX2 15 "SpaceWalls$Heaps" "common" "[Z", .fieldLink RX2 19 "SpaceWalls$Heaps" "keyX" "[I", .fieldLink RX2 22 "SpaceWalls$Heaps" "keyY" "[I", .fieldLink RX2 25 "SpaceWalls$Heaps" "keyZ" "[I", .classLink RX2 28 RX0, .instantiable RX0 3, .initialized RX0, .fieldLink RX2 31 "SpaceWalls$Heaps" "key" "LSpaceWalls$Arrow;", .fieldLink RX2 35 "SpaceWalls$Heaps" "planes" "LSpaceWalls$Planes;", .instanceMethod yX0_init, .code yX0_init cX0_init 1 none, .methodLink RX0 1 objectInit] ++ wsX20 ++ wsX00)
def wsJ6_bitCount_0f7a4 : List Cond := .code yJ6_bitCount_0f7a4 cJ6_bitCount_0f7a4 1 (some .int) :: ([.constant RJ6 265 (1431655765), .constant RJ6 266 (858993459), .constant RJ6 267 (252645135)])
def wsX2_factor : List Cond := .code yX2_factor cX2_factor 5 (some .int) :: ([.fieldLink RX2 35 "SpaceWalls$Heaps" "planes" "LSpaceWalls$Planes;", .fieldLink RX2 15 "SpaceWalls$Heaps" "common" "[Z", .fieldLink RX2 9 "SpaceWalls$Heaps" "rank" "[I", .methodLink RX2 86 yJ6_bitCount_0f7a4, .static yJ6_bitCount_0f7a4, .initialized RJ6, .code yJ6_bitCount_0f7a4 cJ6_bitCount_0f7a4 1 (some .int), .constant RJ6 265 (1431655765), .constant RJ6 266 (858993459), .constant RJ6 267 (252645135)] ++ wsX20 ++ wsX30)
def wsX3_init : List Cond := .code yX3_init cX3_init 4 none :: ([.methodLink RX3 3 objectInit, .instanceMethod objectInit, .code objectInit ⟨#[0xb1]⟩ 1 none, .arrayClass .int, .fieldLink RX3 9 "SpaceWalls$Planes" "a" "[I", .fieldLink RX3 15 "SpaceWalls$Planes" "b" "[I", .fieldLink RX3 18 "SpaceWalls$Planes" "c" "[I", .fieldLink RX3 21 "SpaceWalls$Planes" "e" "[I", .fieldLink RX3 24 "SpaceWalls$Planes" "threes" "[I", .fieldLink RX3 27 "SpaceWalls$Planes" "numbers" "I", .fieldLink RX3 31 "SpaceWalls$Planes" "size" "I"] ++ wsX30)
def wsX3_holds : List Cond := .code yX3_holds cX3_holds 2 (some .boolean) :: ([.fieldLink RX3 31 "SpaceWalls$Planes" "size" "I"] ++ wsX30)
def wsX3_isWithin : List Cond := .code yX3_isWithin cX3_isWithin 2 (some .boolean) :: ([])
def wsX3_isPlane : List Cond := .code yX3_isPlane cX3_isPlane 5 (some .boolean) :: ([.fieldLink RX3 27 "SpaceWalls$Planes" "numbers" "I", .methodLink RX3 37 yX3_isWithin, .static yX3_isWithin, .initialized RX3, .code yX3_isWithin cX3_isWithin 2 (some .boolean)] ++ wsX30)
def wsX3_isThere : List Cond := .code yX3_isThere cX3_isThere 6 (some .boolean) :: ([.fieldLink RX3 31 "SpaceWalls$Planes" "size" "I", .fieldLink RX3 9 "SpaceWalls$Planes" "a" "[I", .fieldLink RX3 15 "SpaceWalls$Planes" "b" "[I", .fieldLink RX3 18 "SpaceWalls$Planes" "c" "[I", .fieldLink RX3 21 "SpaceWalls$Planes" "e" "[I"] ++ wsX30)
def wsX3_append : List Cond := .code yX3_append cX3_append 5 none :: ([.fieldLink RX3 31 "SpaceWalls$Planes" "size" "I", .fieldLink RX3 9 "SpaceWalls$Planes" "a" "[I", .fieldLink RX3 15 "SpaceWalls$Planes" "b" "[I", .fieldLink RX3 18 "SpaceWalls$Planes" "c" "[I", .fieldLink RX3 21 "SpaceWalls$Planes" "e" "[I"] ++ wsX30)
def wsX3_drop : List Cond := .code yX3_drop cX3_drop 3 none :: ([.fieldLink RX3 31 "SpaceWalls$Planes" "size" "I", .fieldLink RX3 9 "SpaceWalls$Planes" "a" "[I", .fieldLink RX3 15 "SpaceWalls$Planes" "b" "[I", .fieldLink RX3 18 "SpaceWalls$Planes" "c" "[I", .fieldLink RX3 21 "SpaceWalls$Planes" "e" "[I", .methodLink RX3 41 yX3_holds, .instanceMethod yX3_holds, .selects RX3 yX3_holds yX3_holds, .initialized RX3, .code yX3_holds cX3_holds 2 (some .boolean)] ++ wsX30)
def wsX4_init : List Cond := .code yX4_init cX4_init 2 none :: ([.methodLink RX4 3 objectInit, .instanceMethod objectInit, .code objectInit ⟨#[0xb1]⟩ 1 none, .arrayClass .int, .fieldLink RX4 9 "SpaceWalls$PrimeCounter" "turned" "[I", .fieldLink RX4 15 "SpaceWalls$PrimeCounter" "planes" "LSpaceWalls$Planes;"] ++ wsX40)
def wsJ9_floorMod_7cf53 : List Cond := .code yJ9_floorMod_7cf53 cJ9_floorMod_7cf53 3 (some .int) :: ([])
def wsX4_inverse : List Cond := .code yX4_inverse cX4_inverse 3 (some .int) :: ([])
def wsX4_hits : List Cond := .code yX4_hits cX4_hits 7 (some .int) :: ([.fieldLink RX4 15 "SpaceWalls$PrimeCounter" "planes" "LSpaceWalls$Planes;", .fieldLink RX4 9 "SpaceWalls$PrimeCounter" "turned" "[I", .methodLink RX4 28 yJ9_floorMod_7cf53, .static yJ9_floorMod_7cf53, .initialized RJ9, .code yJ9_floorMod_7cf53 cJ9_floorMod_7cf53 3 (some .int)] ++ wsX40 ++ wsX30)
def wsX4_countMissed : List Cond := .code yX4_countMissed cX4_countMissed 7 (some .int) :: ([.fieldLink RX4 15 "SpaceWalls$PrimeCounter" "planes" "LSpaceWalls$Planes;", .fieldLink RX4 9 "SpaceWalls$PrimeCounter" "turned" "[I", .methodLink RX4 28 yJ9_floorMod_7cf53, .static yJ9_floorMod_7cf53, .initialized RJ9, .code yJ9_floorMod_7cf53 cJ9_floorMod_7cf53 3 (some .int), .methodLink RX4 34 yX4_inverse, .static yX4_inverse, .initialized RX4, .code yX4_inverse cX4_inverse 3 (some .int), .methodLink RX4 40 yX4_hits, .instanceMethod yX4_hits, .selects RX4 yX4_hits yX4_hits, .code yX4_hits cX4_hits 7 (some .int), .methodLink RX4 44 yJ6_bitCount_0f7a4, .static yJ6_bitCount_0f7a4, .initialized RJ6, .code yJ6_bitCount_0f7a4 cJ6_bitCount_0f7a4 1 (some .int), .constant RJ6 265 (1431655765), .constant RJ6 266 (858993459), .constant RJ6 267 (252645135)] ++ wsX40 ++ wsX30)
def wsX5_init_r1 : List Cond := [Cond.methodLink RX5 1 objectInit, Cond.instanceMethod objectInit, Cond.code objectInit ⟨#[0xb1]⟩ 1 none, Cond.classLink RX5 7 RX3, Cond.instantiable RX3 7, Cond.initialized RX3, Cond.methodLink RX5 11 Lib.Math.min.name, Cond.static Lib.Math.min.name, Cond.initialized "java/lang/Math", Cond.code Lib.Math.min.name Lib.Math.min.code 2 (some .int), Cond.methodLink RX5 17 Lib.Math.max.name, Cond.static Lib.Math.max.name, Cond.code Lib.Math.max.name Lib.Math.max.code 2 (some .int), Cond.fieldLink RX5 23 "SpaceWalls" "planes" "LSpaceWalls$Planes;", Cond.classLink RX5 27 RX2, Cond.instantiable RX2 7, Cond.initialized RX2, Cond.fieldLink RX5 32 "SpaceWalls" "heaps" "LSpaceWalls$Heaps;", Cond.classLink RX5 36 RX1, Cond.instantiable RX1 13, Cond.initialized RX1, Cond.fieldLink RX5 41 "SpaceWalls" "cut" "LSpaceWalls$Cut;", Cond.classLink RX5 45 RX4, Cond.instantiable RX4 2]
def wsX5_init_r2 : List Cond := [Cond.initialized RX4, Cond.fieldLink RX5 48 "SpaceWalls" "counter" "LSpaceWalls$PrimeCounter;", Cond.fieldLink RX5 52 "SpaceWalls" "fresh" "Z", Cond.methodLink RX5 20 yX3_init, Cond.instanceMethod yX3_init, Cond.code yX3_init cX3_init 4 none, Cond.methodLink RX3 3 objectInit, Cond.arrayClass .int, Cond.fieldLink RX3 9 "SpaceWalls$Planes" "a" "[I", Cond.fieldLink RX3 15 "SpaceWalls$Planes" "b" "[I", Cond.fieldLink RX3 18 "SpaceWalls$Planes" "c" "[I", Cond.fieldLink RX3 21 "SpaceWalls$Planes" "e" "[I", Cond.fieldLink RX3 24 "SpaceWalls$Planes" "threes" "[I", Cond.fieldLink RX3 27 "SpaceWalls$Planes" "numbers" "I", Cond.fieldLink RX3 31 "SpaceWalls$Planes" "size" "I", Cond.methodLink RX5 29 yX2_init, Cond.instanceMethod yX2_init, Cond.code yX2_init cX2_init 2 none, Cond.methodLink RX2 3 objectInit, Cond.fieldLink RX2 9 "SpaceWalls$Heaps" "rank" "[I", Cond.arrayClass .boolean, Cond.fieldLink RX2 15 "SpaceWalls$Heaps" "common" "[Z", Cond.fieldLink RX2 19 "SpaceWalls$Heaps" "keyX" "[I", Cond.fieldLink RX2 22 "SpaceWalls$Heaps" "keyY" "[I"]
def wsX5_init_r3 : List Cond := [Cond.fieldLink RX2 25 "SpaceWalls$Heaps" "keyZ" "[I", Cond.classLink RX2 28 RX0, Cond.instantiable RX0 3, Cond.initialized RX0, Cond.fieldLink RX2 31 "SpaceWalls$Heaps" "key" "LSpaceWalls$Arrow;", Cond.fieldLink RX2 35 "SpaceWalls$Heaps" "planes" "LSpaceWalls$Planes;", Cond.instanceMethod yX0_init, Cond.code yX0_init cX0_init 1 none, Cond.methodLink RX0 1 objectInit, Cond.methodLink RX5 38 yX1_init, Cond.instanceMethod yX1_init, Cond.code yX1_init cX1_init 3 none, Cond.methodLink RX1 3 objectInit, Cond.fieldLink RX1 9 "SpaceWalls$Cut" "marks" "[I", Cond.fieldLink RX1 15 "SpaceWalls$Cut" "reached" "[I", Cond.fieldLink RX1 18 "SpaceWalls$Cut" "rows" "[I", Cond.fieldLink RX1 21 "SpaceWalls$Cut" "widths" "[I", Cond.fieldLink RX1 24 "SpaceWalls$Cut" "lineAbove" "[I", Cond.fieldLink RX1 27 "SpaceWalls$Cut" "lineBelow" "[I", Cond.classLink RX1 30 RX0, Cond.fieldLink RX1 33 "SpaceWalls$Cut" "first" "LSpaceWalls$Arrow;", Cond.fieldLink RX1 37 "SpaceWalls$Cut" "second" "LSpaceWalls$Arrow;", Cond.fieldLink RX1 40 "SpaceWalls$Cut" "third" "LSpaceWalls$Arrow;", Cond.fieldLink RX1 43 "SpaceWalls$Cut" "planes" "LSpaceWalls$Planes;"]
def wsX5_init_r4 : List Cond := [Cond.fieldLink RX1 47 "SpaceWalls$Cut" "heaps" "LSpaceWalls$Heaps;", Cond.fieldLink RX1 51 "SpaceWalls$Cut" "found" "I", Cond.fieldLink RX1 55 "SpaceWalls$Cut" "lines" "I", Cond.methodLink RX5 47 yX4_init, Cond.instanceMethod yX4_init, Cond.code yX4_init cX4_init 2 none, Cond.methodLink RX4 3 objectInit, Cond.fieldLink RX4 9 "SpaceWalls$PrimeCounter" "turned" "[I", Cond.fieldLink RX4 15 "SpaceWalls$PrimeCounter" "planes" "LSpaceWalls$Planes;"]
def wsX5_init : List Cond := .code yX5_init cX5_init 2 none :: ((wsX5_init_r1 ++ (wsX5_init_r2 ++ (wsX5_init_r3 ++ wsX5_init_r4))) ++ wsX30 ++ wsX50 ++ wsX20 ++ wsX10 ++ wsX40 ++ wsX00)
def wsX5_wall : List Cond := .code yX5_wall cX5_wall 5 (some .int) :: ([.fieldLink RX5 23 "SpaceWalls" "planes" "LSpaceWalls$Planes;", .fieldLink RX5 52 "SpaceWalls" "fresh" "Z", .methodLink RX5 60 yX3_isPlane, .instanceMethod yX3_isPlane, .selects RX3 yX3_isPlane yX3_isPlane, .initialized RX3, .code yX3_isPlane cX3_isPlane 5 (some .boolean), .fieldLink RX3 27 "SpaceWalls$Planes" "numbers" "I", .methodLink RX3 37 yX3_isWithin, .static yX3_isWithin, .code yX3_isWithin cX3_isWithin 2 (some .boolean), .methodLink RX5 64 yX3_isThere, .instanceMethod yX3_isThere, .selects RX3 yX3_isThere yX3_isThere, .code yX3_isThere cX3_isThere 6 (some .boolean), .fieldLink RX3 31 "SpaceWalls$Planes" "size" "I", .fieldLink RX3 9 "SpaceWalls$Planes" "a" "[I", .fieldLink RX3 15 "SpaceWalls$Planes" "b" "[I", .fieldLink RX3 18 "SpaceWalls$Planes" "c" "[I", .fieldLink RX3 21 "SpaceWalls$Planes" "e" "[I", .methodLink RX5 67 yX3_append, .instanceMethod yX3_append, .selects RX3 yX3_append yX3_append, .code yX3_append cX3_append 5 none] ++ wsX50 ++ wsX30)
def wsX5_take : List Cond := .code yX5_take cX5_take 2 (some .boolean) :: ([.fieldLink RX5 23 "SpaceWalls" "planes" "LSpaceWalls$Planes;", .fieldLink RX5 52 "SpaceWalls" "fresh" "Z", .methodLink RX5 71 yX3_holds, .instanceMethod yX3_holds, .selects RX3 yX3_holds yX3_holds, .initialized RX3, .code yX3_holds cX3_holds 2 (some .boolean), .fieldLink RX3 31 "SpaceWalls$Planes" "size" "I", .methodLink RX5 75 yX3_drop, .instanceMethod yX3_drop, .selects RX3 yX3_drop yX3_drop, .code yX3_drop cX3_drop 3 none, .fieldLink RX3 9 "SpaceWalls$Planes" "a" "[I", .fieldLink RX3 15 "SpaceWalls$Planes" "b" "[I", .fieldLink RX3 18 "SpaceWalls$Planes" "c" "[I", .fieldLink RX3 21 "SpaceWalls$Planes" "e" "[I", .methodLink RX3 41 yX3_holds] ++ wsX50 ++ wsX30)
def wsX5_told : List Cond := .code yX5_told cX5_told 3 (some .int) :: ([.fieldLink RX5 23 "SpaceWalls" "planes" "LSpaceWalls$Planes;", .methodLink RX5 71 yX3_holds, .instanceMethod yX3_holds, .selects RX3 yX3_holds yX3_holds, .initialized RX3, .code yX3_holds cX3_holds 2 (some .boolean), .fieldLink RX3 31 "SpaceWalls$Planes" "size" "I"] ++ wsX50 ++ wsX30)
def wsX5_isTooFar : List Cond := .code yX5_isTooFar cX5_isTooFar 1 (some .boolean) :: ([.constant RX5 166 (1000000), .constant RX5 167 (-1000000)])
def wsX5_row_r1 : List Cond := [Cond.fieldLink RX5 23 "SpaceWalls" "planes" "LSpaceWalls$Planes;", Cond.methodLink RX5 94 yX5_isTooFar, Cond.static yX5_isTooFar, Cond.initialized RX5, Cond.code yX5_isTooFar cX5_isTooFar 1 (some .boolean), Cond.constant RX5 166 (1000000), Cond.constant RX5 167 (-1000000), Cond.methodLink RX5 97 yX3_signs, Cond.instanceMethod yX3_signs, Cond.selects RX3 yX3_signs yX3_signs, Cond.initialized RX3, Cond.code yX3_signs cX3_signs 8 (some .int), Cond.fieldLink RX3 31 "SpaceWalls$Planes" "size" "I", Cond.fieldLink RX3 9 "SpaceWalls$Planes" "a" "[I", Cond.fieldLink RX3 15 "SpaceWalls$Planes" "b" "[I", Cond.fieldLink RX3 18 "SpaceWalls$Planes" "c" "[I", Cond.fieldLink RX3 21 "SpaceWalls$Planes" "e" "[I", Cond.methodLink RX5 101 yX3_rowOf, Cond.instanceMethod yX3_rowOf, Cond.selects RX3 yX3_rowOf yX3_rowOf, Cond.code yX3_rowOf cX3_rowOf 2 (some .int), Cond.fieldLink RX3 24 "SpaceWalls$Planes" "threes" "[I", Cond.static yX5_onMask, Cond.code yX5_onMask cX5_onMask 1 (some .int)]
def wsX5_row_r2 : List Cond := [Cond.static yX5_aboveMask, Cond.code yX5_aboveMask cX5_aboveMask 1 (some .int)]
def wsX5_row : List Cond := .code yX5_row cX5_row 6 (some .int) :: ((wsX5_row_r1 ++ wsX5_row_r2) ++ wsX50 ++ wsX30)
def wsX5_freshCut_r1 : List Cond := [Cond.fieldLink RX5 52 "SpaceWalls" "fresh" "Z", Cond.fieldLink RX5 41 "SpaceWalls" "cut" "LSpaceWalls$Cut;", Cond.methodLink RX5 163 yX1_cutAnew, Cond.instanceMethod yX1_cutAnew, Cond.selects RX1 yX1_cutAnew yX1_cutAnew, Cond.initialized RX1, Cond.code yX1_cutAnew cX1_cutAnew 2 none, Cond.fieldLink RX1 9 "SpaceWalls$Cut" "marks" "[I", Cond.fieldLink RX1 51 "SpaceWalls$Cut" "found" "I", Cond.fieldLink RX1 55 "SpaceWalls$Cut" "lines" "I", Cond.fieldLink RX1 47 "SpaceWalls$Cut" "heaps" "LSpaceWalls$Heaps;", Cond.fieldLink RX1 15 "SpaceWalls$Cut" "reached" "[I", Cond.methodLink RX1 58 yJ7_fill_53178, Cond.static yJ7_fill_53178, Cond.initialized RJ7, Cond.code yJ7_fill_53178 cJ7_fill_53178 4 none, Cond.methodLink RX1 64 yX2_forgetCommon, Cond.instanceMethod yX2_forgetCommon, Cond.selects RX2 yX2_forgetCommon yX2_forgetCommon, Cond.initialized RX2, Cond.code yX2_forgetCommon cX2_forgetCommon 2 none, Cond.fieldLink RX2 15 "SpaceWalls$Heaps" "common" "[Z", Cond.methodLink RX1 69 yX2_rankAnew, Cond.instanceMethod yX2_rankAnew]
def wsX5_freshCut_r2 : List Cond := [Cond.selects RX2 yX2_rankAnew yX2_rankAnew, Cond.code yX2_rankAnew cX2_rankAnew 3 none, Cond.fieldLink RX2 35 "SpaceWalls$Heaps" "planes" "LSpaceWalls$Planes;", Cond.methodLink RX2 45 yX2_rankWith, Cond.instanceMethod yX2_rankWith, Cond.selects RX2 yX2_rankWith yX2_rankWith, Cond.code yX2_rankWith cX2_rankWith 6 none, Cond.fieldLink RX2 9 "SpaceWalls$Heaps" "rank" "[I", Cond.fieldLink RX2 31 "SpaceWalls$Heaps" "key" "LSpaceWalls$Arrow;", Cond.fieldLink RX2 19 "SpaceWalls$Heaps" "keyX" "[I", Cond.fieldLink RX2 22 "SpaceWalls$Heaps" "keyY" "[I", Cond.fieldLink RX2 25 "SpaceWalls$Heaps" "keyZ" "[I", Cond.methodLink RX2 49 yX0_set, Cond.instanceMethod yX0_set, Cond.selects RX0 yX0_set yX0_set, Cond.initialized RX0, Cond.code yX0_set cX0_set 4 none, Cond.fieldLink RX0 29 "SpaceWalls$Arrow" "x" "I", Cond.fieldLink RX0 33 "SpaceWalls$Arrow" "y" "I", Cond.fieldLink RX0 36 "SpaceWalls$Arrow" "z" "I", Cond.methodLink RX2 62 yX0_crossWith, Cond.instanceMethod yX0_crossWith, Cond.selects RX0 yX0_crossWith yX0_crossWith, Cond.code yX0_crossWith cX0_crossWith 6 none]
def wsX5_freshCut_r3 : List Cond := [Cond.methodLink RX0 19 yX0_set, Cond.methodLink RX2 66 yX0_isNothing, Cond.instanceMethod yX0_isNothing, Cond.selects RX0 yX0_isNothing yX0_isNothing, Cond.code yX0_isNothing cX0_isNothing 1 (some .boolean), Cond.methodLink RX2 70 yX0_climb, Cond.instanceMethod yX0_climb, Cond.selects RX0 yX0_climb yX0_climb, Cond.code yX0_climb cX0_climb 3 (some .int), Cond.methodLink RX1 72 yX1_crossPlanes, Cond.instanceMethod yX1_crossPlanes, Cond.selects RX1 yX1_crossPlanes yX1_crossPlanes, Cond.code yX1_crossPlanes cX1_crossPlanes 5 none, Cond.fieldLink RX1 43 "SpaceWalls$Cut" "planes" "LSpaceWalls$Planes;", Cond.fieldLink RX1 33 "SpaceWalls$Cut" "first" "LSpaceWalls$Arrow;", Cond.methodLink RX1 85 yX2_rankOfAll, Cond.instanceMethod yX2_rankOfAll, Cond.selects RX2 yX2_rankOfAll yX2_rankOfAll, Cond.code yX2_rankOfAll cX2_rankOfAll 1 (some .int), Cond.methodLink RX1 94 yX3_indexOf, Cond.instanceMethod yX3_indexOf, Cond.selects RX3 yX3_indexOf yX3_indexOf, Cond.initialized RX3, Cond.code yX3_indexOf cX3_indexOf 2 (some .int)]
def wsX5_freshCut_r4 : List Cond := [Cond.fieldLink RX3 31 "SpaceWalls$Planes" "size" "I", Cond.methodLink RX3 45 Lib.Math.min.name, Cond.static Lib.Math.min.name, Cond.initialized "java/lang/Math", Cond.code Lib.Math.min.name Lib.Math.min.code 2 (some .int), Cond.methodLink RX1 98 yX0_alongBoth, Cond.instanceMethod yX0_alongBoth, Cond.selects RX0 yX0_alongBoth yX0_alongBoth, Cond.code yX0_alongBoth cX0_alongBoth 4 none, Cond.methodLink RX0 25 yX0_crossWith, Cond.methodLink RX1 102 yX0_isNothing, Cond.methodLink RX1 106 yX1_noteLine, Cond.instanceMethod yX1_noteLine, Cond.selects RX1 yX1_noteLine yX1_noteLine, Cond.code yX1_noteLine cX1_noteLine 5 none, Cond.fieldLink RX1 24 "SpaceWalls$Cut" "lineAbove" "[I", Cond.fieldLink RX1 27 "SpaceWalls$Cut" "lineBelow" "[I", Cond.methodLink RX1 122 yX3_signs, Cond.instanceMethod yX3_signs, Cond.selects RX3 yX3_signs yX3_signs, Cond.code yX3_signs cX3_signs 8 (some .int), Cond.fieldLink RX3 9 "SpaceWalls$Planes" "a" "[I", Cond.fieldLink RX3 15 "SpaceWalls$Planes" "b" "[I", Cond.fieldLink RX3 18 "SpaceWalls$Planes" "c" "[I"]
def wsX5_freshCut_r5 : List Cond := [Cond.fieldLink RX3 21 "SpaceWalls$Planes" "e" "[I", Cond.static yX5_onMask, Cond.initialized RX5, Cond.code yX5_onMask cX5_onMask 1 (some .int), Cond.static yX5_aboveMask, Cond.code yX5_aboveMask cX5_aboveMask 1 (some .int), Cond.methodLink RX1 109 yX1_noteCorner, Cond.instanceMethod yX1_noteCorner, Cond.selects RX1 yX1_noteCorner yX1_noteCorner, Cond.code yX1_noteCorner cX1_noteCorner 12 none, Cond.fieldLink RX1 37 "SpaceWalls$Cut" "second" "LSpaceWalls$Arrow;", Cond.fieldLink RX1 40 "SpaceWalls$Cut" "third" "LSpaceWalls$Arrow;", Cond.methodLink RX1 132 yX0_climb, Cond.methodLink RX1 139 yX1_reach, Cond.instanceMethod yX1_reach, Cond.selects RX1 yX1_reach yX1_reach, Cond.code yX1_reach cX1_reach 3 none, Cond.methodLink RX1 142 yX3_rowOf, Cond.instanceMethod yX3_rowOf, Cond.selects RX3 yX3_rowOf yX3_rowOf, Cond.code yX3_rowOf cX3_rowOf 2 (some .int), Cond.fieldLink RX3 24 "SpaceWalls$Planes" "threes" "[I", Cond.methodLink RX1 145 yX1_isMarked, Cond.instanceMethod yX1_isMarked]
def wsX5_freshCut_r6 : List Cond := [Cond.selects RX1 yX1_isMarked yX1_isMarked, Cond.code yX1_isMarked cX1_isMarked 2 (some .boolean), Cond.methodLink RX1 75 yX1_moveFrom, Cond.instanceMethod yX1_moveFrom, Cond.selects RX1 yX1_moveFrom yX1_moveFrom, Cond.code yX1_moveFrom cX1_moveFrom 6 none, Cond.methodLink RX1 79 yX1_sortRows, Cond.instanceMethod yX1_sortRows, Cond.selects RX1 yX1_sortRows yX1_sortRows, Cond.code yX1_sortRows cX1_sortRows 3 none, Cond.fieldLink RX1 18 "SpaceWalls$Cut" "rows" "[I", Cond.fieldLink RX1 21 "SpaceWalls$Cut" "widths" "[I", Cond.static yX5_maskOf, Cond.code yX5_maskOf cX5_maskOf 5 (some .int), Cond.methodLink RX1 82 yX2_shareDown, Cond.instanceMethod yX2_shareDown, Cond.selects RX2 yX2_shareDown yX2_shareDown, Cond.code yX2_shareDown cX2_shareDown 3 none]
def wsX5_freshCut : List Cond := .code yX5_freshCut cX5_freshCut 1 (some (.object "SpaceWalls$Cut")) :: ((wsX5_freshCut_r1 ++ (wsX5_freshCut_r2 ++ (wsX5_freshCut_r3 ++ (wsX5_freshCut_r4 ++ (wsX5_freshCut_r5 ++ wsX5_freshCut_r6))))) ++ wsX50 ++ wsX10 ++ wsX20 ++ wsX30 ++ wsX00)
def wsX5_faces_r1 : List Cond := [Cond.fieldLink RX5 23 "SpaceWalls" "planes" "LSpaceWalls$Planes;", Cond.methodLink RX5 105 yX5_freshCut, Cond.instanceMethod yX5_freshCut, Cond.selects RX5 yX5_freshCut yX5_freshCut, Cond.initialized RX5, Cond.code yX5_freshCut cX5_freshCut 1 (some (.object "SpaceWalls$Cut")), Cond.fieldLink RX5 52 "SpaceWalls" "fresh" "Z", Cond.fieldLink RX5 41 "SpaceWalls" "cut" "LSpaceWalls$Cut;", Cond.methodLink RX5 163 yX1_cutAnew, Cond.instanceMethod yX1_cutAnew, Cond.selects RX1 yX1_cutAnew yX1_cutAnew, Cond.initialized RX1, Cond.code yX1_cutAnew cX1_cutAnew 2 none, Cond.fieldLink RX1 9 "SpaceWalls$Cut" "marks" "[I", Cond.fieldLink RX1 51 "SpaceWalls$Cut" "found" "I", Cond.fieldLink RX1 55 "SpaceWalls$Cut" "lines" "I", Cond.fieldLink RX1 47 "SpaceWalls$Cut" "heaps" "LSpaceWalls$Heaps;", Cond.fieldLink RX1 15 "SpaceWalls$Cut" "reached" "[I", Cond.methodLink RX1 58 yJ7_fill_53178, Cond.static yJ7_fill_53178, Cond.initialized RJ7, Cond.code yJ7_fill_53178 cJ7_fill_53178 4 none, Cond.methodLink RX1 64 yX2_forgetCommon, Cond.instanceMethod yX2_forgetCommon]
def wsX5_faces_r2 : List Cond := [Cond.selects RX2 yX2_forgetCommon yX2_forgetCommon, Cond.initialized RX2, Cond.code yX2_forgetCommon cX2_forgetCommon 2 none, Cond.fieldLink RX2 15 "SpaceWalls$Heaps" "common" "[Z", Cond.methodLink RX1 69 yX2_rankAnew, Cond.instanceMethod yX2_rankAnew, Cond.selects RX2 yX2_rankAnew yX2_rankAnew, Cond.code yX2_rankAnew cX2_rankAnew 3 none, Cond.fieldLink RX2 35 "SpaceWalls$Heaps" "planes" "LSpaceWalls$Planes;", Cond.methodLink RX2 45 yX2_rankWith, Cond.instanceMethod yX2_rankWith, Cond.selects RX2 yX2_rankWith yX2_rankWith, Cond.code yX2_rankWith cX2_rankWith 6 none, Cond.fieldLink RX2 9 "SpaceWalls$Heaps" "rank" "[I", Cond.fieldLink RX2 31 "SpaceWalls$Heaps" "key" "LSpaceWalls$Arrow;", Cond.fieldLink RX2 19 "SpaceWalls$Heaps" "keyX" "[I", Cond.fieldLink RX2 22 "SpaceWalls$Heaps" "keyY" "[I", Cond.fieldLink RX2 25 "SpaceWalls$Heaps" "keyZ" "[I", Cond.methodLink RX2 49 yX0_set, Cond.instanceMethod yX0_set, Cond.selects RX0 yX0_set yX0_set, Cond.initialized RX0, Cond.code yX0_set cX0_set 4 none, Cond.fieldLink RX0 29 "SpaceWalls$Arrow" "x" "I"]
def wsX5_faces_r3 : List Cond := [Cond.fieldLink RX0 33 "SpaceWalls$Arrow" "y" "I", Cond.fieldLink RX0 36 "SpaceWalls$Arrow" "z" "I", Cond.methodLink RX2 62 yX0_crossWith, Cond.instanceMethod yX0_crossWith, Cond.selects RX0 yX0_crossWith yX0_crossWith, Cond.code yX0_crossWith cX0_crossWith 6 none, Cond.methodLink RX0 19 yX0_set, Cond.methodLink RX2 66 yX0_isNothing, Cond.instanceMethod yX0_isNothing, Cond.selects RX0 yX0_isNothing yX0_isNothing, Cond.code yX0_isNothing cX0_isNothing 1 (some .boolean), Cond.methodLink RX2 70 yX0_climb, Cond.instanceMethod yX0_climb, Cond.selects RX0 yX0_climb yX0_climb, Cond.code yX0_climb cX0_climb 3 (some .int), Cond.methodLink RX1 72 yX1_crossPlanes, Cond.instanceMethod yX1_crossPlanes, Cond.selects RX1 yX1_crossPlanes yX1_crossPlanes, Cond.code yX1_crossPlanes cX1_crossPlanes 5 none, Cond.fieldLink RX1 43 "SpaceWalls$Cut" "planes" "LSpaceWalls$Planes;", Cond.fieldLink RX1 33 "SpaceWalls$Cut" "first" "LSpaceWalls$Arrow;", Cond.methodLink RX1 85 yX2_rankOfAll, Cond.instanceMethod yX2_rankOfAll, Cond.selects RX2 yX2_rankOfAll yX2_rankOfAll]
def wsX5_faces_r4 : List Cond := [Cond.code yX2_rankOfAll cX2_rankOfAll 1 (some .int), Cond.methodLink RX1 94 yX3_indexOf, Cond.instanceMethod yX3_indexOf, Cond.selects RX3 yX3_indexOf yX3_indexOf, Cond.initialized RX3, Cond.code yX3_indexOf cX3_indexOf 2 (some .int), Cond.fieldLink RX3 31 "SpaceWalls$Planes" "size" "I", Cond.methodLink RX3 45 Lib.Math.min.name, Cond.static Lib.Math.min.name, Cond.initialized "java/lang/Math", Cond.code Lib.Math.min.name Lib.Math.min.code 2 (some .int), Cond.methodLink RX1 98 yX0_alongBoth, Cond.instanceMethod yX0_alongBoth, Cond.selects RX0 yX0_alongBoth yX0_alongBoth, Cond.code yX0_alongBoth cX0_alongBoth 4 none, Cond.methodLink RX0 25 yX0_crossWith, Cond.methodLink RX1 102 yX0_isNothing, Cond.methodLink RX1 106 yX1_noteLine, Cond.instanceMethod yX1_noteLine, Cond.selects RX1 yX1_noteLine yX1_noteLine, Cond.code yX1_noteLine cX1_noteLine 5 none, Cond.fieldLink RX1 24 "SpaceWalls$Cut" "lineAbove" "[I", Cond.fieldLink RX1 27 "SpaceWalls$Cut" "lineBelow" "[I", Cond.methodLink RX1 122 yX3_signs]
def wsX5_faces_r5 : List Cond := [Cond.instanceMethod yX3_signs, Cond.selects RX3 yX3_signs yX3_signs, Cond.code yX3_signs cX3_signs 8 (some .int), Cond.fieldLink RX3 9 "SpaceWalls$Planes" "a" "[I", Cond.fieldLink RX3 15 "SpaceWalls$Planes" "b" "[I", Cond.fieldLink RX3 18 "SpaceWalls$Planes" "c" "[I", Cond.fieldLink RX3 21 "SpaceWalls$Planes" "e" "[I", Cond.static yX5_onMask, Cond.code yX5_onMask cX5_onMask 1 (some .int), Cond.static yX5_aboveMask, Cond.code yX5_aboveMask cX5_aboveMask 1 (some .int), Cond.methodLink RX1 109 yX1_noteCorner, Cond.instanceMethod yX1_noteCorner, Cond.selects RX1 yX1_noteCorner yX1_noteCorner, Cond.code yX1_noteCorner cX1_noteCorner 12 none, Cond.fieldLink RX1 37 "SpaceWalls$Cut" "second" "LSpaceWalls$Arrow;", Cond.fieldLink RX1 40 "SpaceWalls$Cut" "third" "LSpaceWalls$Arrow;", Cond.methodLink RX1 132 yX0_climb, Cond.methodLink RX1 139 yX1_reach, Cond.instanceMethod yX1_reach, Cond.selects RX1 yX1_reach yX1_reach, Cond.code yX1_reach cX1_reach 3 none, Cond.methodLink RX1 142 yX3_rowOf, Cond.instanceMethod yX3_rowOf]
def wsX5_faces_r6 : List Cond := [Cond.selects RX3 yX3_rowOf yX3_rowOf, Cond.code yX3_rowOf cX3_rowOf 2 (some .int), Cond.fieldLink RX3 24 "SpaceWalls$Planes" "threes" "[I", Cond.methodLink RX1 145 yX1_isMarked, Cond.instanceMethod yX1_isMarked, Cond.selects RX1 yX1_isMarked yX1_isMarked, Cond.code yX1_isMarked cX1_isMarked 2 (some .boolean), Cond.methodLink RX1 75 yX1_moveFrom, Cond.instanceMethod yX1_moveFrom, Cond.selects RX1 yX1_moveFrom yX1_moveFrom, Cond.code yX1_moveFrom cX1_moveFrom 6 none, Cond.methodLink RX1 79 yX1_sortRows, Cond.instanceMethod yX1_sortRows, Cond.selects RX1 yX1_sortRows yX1_sortRows, Cond.code yX1_sortRows cX1_sortRows 3 none, Cond.fieldLink RX1 18 "SpaceWalls$Cut" "rows" "[I", Cond.fieldLink RX1 21 "SpaceWalls$Cut" "widths" "[I", Cond.static yX5_maskOf, Cond.code yX5_maskOf cX5_maskOf 5 (some .int), Cond.methodLink RX1 82 yX2_shareDown, Cond.instanceMethod yX2_shareDown, Cond.selects RX2 yX2_shareDown yX2_shareDown, Cond.code yX2_shareDown cX2_shareDown 3 none, Cond.methodLink RX5 109 yX1_countOfWidth]
def wsX5_faces_r7 : List Cond := [Cond.instanceMethod yX1_countOfWidth, Cond.selects RX1 yX1_countOfWidth yX1_countOfWidth, Cond.code yX1_countOfWidth cX1_countOfWidth 4 (some .int)]
def wsX5_faces : List Cond := .code yX5_faces cX5_faces 2 (some .int) :: ((wsX5_faces_r1 ++ (wsX5_faces_r2 ++ (wsX5_faces_r3 ++ (wsX5_faces_r4 ++ (wsX5_faces_r5 ++ (wsX5_faces_r6 ++ wsX5_faces_r7)))))) ++ wsX50 ++ wsX30 ++ wsX10 ++ wsX20 ++ wsX00)
def wsX5_face_r1 : List Cond := [Cond.methodLink RX5 105 yX5_freshCut, Cond.instanceMethod yX5_freshCut, Cond.selects RX5 yX5_freshCut yX5_freshCut, Cond.initialized RX5, Cond.code yX5_freshCut cX5_freshCut 1 (some (.object "SpaceWalls$Cut")), Cond.fieldLink RX5 52 "SpaceWalls" "fresh" "Z", Cond.fieldLink RX5 41 "SpaceWalls" "cut" "LSpaceWalls$Cut;", Cond.methodLink RX5 163 yX1_cutAnew, Cond.instanceMethod yX1_cutAnew, Cond.selects RX1 yX1_cutAnew yX1_cutAnew, Cond.initialized RX1, Cond.code yX1_cutAnew cX1_cutAnew 2 none, Cond.fieldLink RX1 9 "SpaceWalls$Cut" "marks" "[I", Cond.fieldLink RX1 51 "SpaceWalls$Cut" "found" "I", Cond.fieldLink RX1 55 "SpaceWalls$Cut" "lines" "I", Cond.fieldLink RX1 47 "SpaceWalls$Cut" "heaps" "LSpaceWalls$Heaps;", Cond.fieldLink RX1 15 "SpaceWalls$Cut" "reached" "[I", Cond.methodLink RX1 58 yJ7_fill_53178, Cond.static yJ7_fill_53178, Cond.initialized RJ7, Cond.code yJ7_fill_53178 cJ7_fill_53178 4 none, Cond.methodLink RX1 64 yX2_forgetCommon, Cond.instanceMethod yX2_forgetCommon, Cond.selects RX2 yX2_forgetCommon yX2_forgetCommon]
def wsX5_face_r2 : List Cond := [Cond.initialized RX2, Cond.code yX2_forgetCommon cX2_forgetCommon 2 none, Cond.fieldLink RX2 15 "SpaceWalls$Heaps" "common" "[Z", Cond.methodLink RX1 69 yX2_rankAnew, Cond.instanceMethod yX2_rankAnew, Cond.selects RX2 yX2_rankAnew yX2_rankAnew, Cond.code yX2_rankAnew cX2_rankAnew 3 none, Cond.fieldLink RX2 35 "SpaceWalls$Heaps" "planes" "LSpaceWalls$Planes;", Cond.methodLink RX2 45 yX2_rankWith, Cond.instanceMethod yX2_rankWith, Cond.selects RX2 yX2_rankWith yX2_rankWith, Cond.code yX2_rankWith cX2_rankWith 6 none, Cond.fieldLink RX2 9 "SpaceWalls$Heaps" "rank" "[I", Cond.fieldLink RX2 31 "SpaceWalls$Heaps" "key" "LSpaceWalls$Arrow;", Cond.fieldLink RX2 19 "SpaceWalls$Heaps" "keyX" "[I", Cond.fieldLink RX2 22 "SpaceWalls$Heaps" "keyY" "[I", Cond.fieldLink RX2 25 "SpaceWalls$Heaps" "keyZ" "[I", Cond.methodLink RX2 49 yX0_set, Cond.instanceMethod yX0_set, Cond.selects RX0 yX0_set yX0_set, Cond.initialized RX0, Cond.code yX0_set cX0_set 4 none, Cond.fieldLink RX0 29 "SpaceWalls$Arrow" "x" "I", Cond.fieldLink RX0 33 "SpaceWalls$Arrow" "y" "I"]
def wsX5_face_r3 : List Cond := [Cond.fieldLink RX0 36 "SpaceWalls$Arrow" "z" "I", Cond.methodLink RX2 62 yX0_crossWith, Cond.instanceMethod yX0_crossWith, Cond.selects RX0 yX0_crossWith yX0_crossWith, Cond.code yX0_crossWith cX0_crossWith 6 none, Cond.methodLink RX0 19 yX0_set, Cond.methodLink RX2 66 yX0_isNothing, Cond.instanceMethod yX0_isNothing, Cond.selects RX0 yX0_isNothing yX0_isNothing, Cond.code yX0_isNothing cX0_isNothing 1 (some .boolean), Cond.methodLink RX2 70 yX0_climb, Cond.instanceMethod yX0_climb, Cond.selects RX0 yX0_climb yX0_climb, Cond.code yX0_climb cX0_climb 3 (some .int), Cond.methodLink RX1 72 yX1_crossPlanes, Cond.instanceMethod yX1_crossPlanes, Cond.selects RX1 yX1_crossPlanes yX1_crossPlanes, Cond.code yX1_crossPlanes cX1_crossPlanes 5 none, Cond.fieldLink RX1 43 "SpaceWalls$Cut" "planes" "LSpaceWalls$Planes;", Cond.fieldLink RX1 33 "SpaceWalls$Cut" "first" "LSpaceWalls$Arrow;", Cond.methodLink RX1 85 yX2_rankOfAll, Cond.instanceMethod yX2_rankOfAll, Cond.selects RX2 yX2_rankOfAll yX2_rankOfAll, Cond.code yX2_rankOfAll cX2_rankOfAll 1 (some .int)]
def wsX5_face_r4 : List Cond := [Cond.methodLink RX1 94 yX3_indexOf, Cond.instanceMethod yX3_indexOf, Cond.selects RX3 yX3_indexOf yX3_indexOf, Cond.initialized RX3, Cond.code yX3_indexOf cX3_indexOf 2 (some .int), Cond.fieldLink RX3 31 "SpaceWalls$Planes" "size" "I", Cond.methodLink RX3 45 Lib.Math.min.name, Cond.static Lib.Math.min.name, Cond.initialized "java/lang/Math", Cond.code Lib.Math.min.name Lib.Math.min.code 2 (some .int), Cond.methodLink RX1 98 yX0_alongBoth, Cond.instanceMethod yX0_alongBoth, Cond.selects RX0 yX0_alongBoth yX0_alongBoth, Cond.code yX0_alongBoth cX0_alongBoth 4 none, Cond.methodLink RX0 25 yX0_crossWith, Cond.methodLink RX1 102 yX0_isNothing, Cond.methodLink RX1 106 yX1_noteLine, Cond.instanceMethod yX1_noteLine, Cond.selects RX1 yX1_noteLine yX1_noteLine, Cond.code yX1_noteLine cX1_noteLine 5 none, Cond.fieldLink RX1 24 "SpaceWalls$Cut" "lineAbove" "[I", Cond.fieldLink RX1 27 "SpaceWalls$Cut" "lineBelow" "[I", Cond.methodLink RX1 122 yX3_signs, Cond.instanceMethod yX3_signs]
def wsX5_face_r5 : List Cond := [Cond.selects RX3 yX3_signs yX3_signs, Cond.code yX3_signs cX3_signs 8 (some .int), Cond.fieldLink RX3 9 "SpaceWalls$Planes" "a" "[I", Cond.fieldLink RX3 15 "SpaceWalls$Planes" "b" "[I", Cond.fieldLink RX3 18 "SpaceWalls$Planes" "c" "[I", Cond.fieldLink RX3 21 "SpaceWalls$Planes" "e" "[I", Cond.static yX5_onMask, Cond.code yX5_onMask cX5_onMask 1 (some .int), Cond.static yX5_aboveMask, Cond.code yX5_aboveMask cX5_aboveMask 1 (some .int), Cond.methodLink RX1 109 yX1_noteCorner, Cond.instanceMethod yX1_noteCorner, Cond.selects RX1 yX1_noteCorner yX1_noteCorner, Cond.code yX1_noteCorner cX1_noteCorner 12 none, Cond.fieldLink RX1 37 "SpaceWalls$Cut" "second" "LSpaceWalls$Arrow;", Cond.fieldLink RX1 40 "SpaceWalls$Cut" "third" "LSpaceWalls$Arrow;", Cond.methodLink RX1 132 yX0_climb, Cond.methodLink RX1 139 yX1_reach, Cond.instanceMethod yX1_reach, Cond.selects RX1 yX1_reach yX1_reach, Cond.code yX1_reach cX1_reach 3 none, Cond.methodLink RX1 142 yX3_rowOf, Cond.instanceMethod yX3_rowOf, Cond.selects RX3 yX3_rowOf yX3_rowOf]
def wsX5_face_r6 : List Cond := [Cond.code yX3_rowOf cX3_rowOf 2 (some .int), Cond.fieldLink RX3 24 "SpaceWalls$Planes" "threes" "[I", Cond.methodLink RX1 145 yX1_isMarked, Cond.instanceMethod yX1_isMarked, Cond.selects RX1 yX1_isMarked yX1_isMarked, Cond.code yX1_isMarked cX1_isMarked 2 (some .boolean), Cond.methodLink RX1 75 yX1_moveFrom, Cond.instanceMethod yX1_moveFrom, Cond.selects RX1 yX1_moveFrom yX1_moveFrom, Cond.code yX1_moveFrom cX1_moveFrom 6 none, Cond.methodLink RX1 79 yX1_sortRows, Cond.instanceMethod yX1_sortRows, Cond.selects RX1 yX1_sortRows yX1_sortRows, Cond.code yX1_sortRows cX1_sortRows 3 none, Cond.fieldLink RX1 18 "SpaceWalls$Cut" "rows" "[I", Cond.fieldLink RX1 21 "SpaceWalls$Cut" "widths" "[I", Cond.static yX5_maskOf, Cond.code yX5_maskOf cX5_maskOf 5 (some .int), Cond.methodLink RX1 82 yX2_shareDown, Cond.instanceMethod yX2_shareDown, Cond.selects RX2 yX2_shareDown yX2_shareDown, Cond.code yX2_shareDown cX2_shareDown 3 none, Cond.methodLink RX5 112 yX1_rowOfWidth, Cond.instanceMethod yX1_rowOfWidth]
def wsX5_face_r7 : List Cond := [Cond.selects RX1 yX1_rowOfWidth yX1_rowOfWidth, Cond.code yX1_rowOfWidth cX1_rowOfWidth 5 (some .int)]
def wsX5_face : List Cond := .code yX5_face cX5_face 3 (some .int) :: ((wsX5_face_r1 ++ (wsX5_face_r2 ++ (wsX5_face_r3 ++ (wsX5_face_r4 ++ (wsX5_face_r5 ++ (wsX5_face_r6 ++ wsX5_face_r7)))))) ++ wsX50 ++ wsX10 ++ wsX20 ++ wsX30 ++ wsX00)
def wsX5_width_r1 : List Cond := [Cond.fieldLink RX5 23 "SpaceWalls" "planes" "LSpaceWalls$Planes;", Cond.fieldLink RX5 32 "SpaceWalls" "heaps" "LSpaceWalls$Heaps;", Cond.methodLink RX5 105 yX5_freshCut, Cond.instanceMethod yX5_freshCut, Cond.selects RX5 yX5_freshCut yX5_freshCut, Cond.initialized RX5, Cond.code yX5_freshCut cX5_freshCut 1 (some (.object "SpaceWalls$Cut")), Cond.fieldLink RX5 52 "SpaceWalls" "fresh" "Z", Cond.fieldLink RX5 41 "SpaceWalls" "cut" "LSpaceWalls$Cut;", Cond.methodLink RX5 163 yX1_cutAnew, Cond.instanceMethod yX1_cutAnew, Cond.selects RX1 yX1_cutAnew yX1_cutAnew, Cond.initialized RX1, Cond.code yX1_cutAnew cX1_cutAnew 2 none, Cond.fieldLink RX1 9 "SpaceWalls$Cut" "marks" "[I", Cond.fieldLink RX1 51 "SpaceWalls$Cut" "found" "I", Cond.fieldLink RX1 55 "SpaceWalls$Cut" "lines" "I", Cond.fieldLink RX1 47 "SpaceWalls$Cut" "heaps" "LSpaceWalls$Heaps;", Cond.fieldLink RX1 15 "SpaceWalls$Cut" "reached" "[I", Cond.methodLink RX1 58 yJ7_fill_53178, Cond.static yJ7_fill_53178, Cond.initialized RJ7, Cond.code yJ7_fill_53178 cJ7_fill_53178 4 none, Cond.methodLink RX1 64 yX2_forgetCommon]
def wsX5_width_r2 : List Cond := [Cond.instanceMethod yX2_forgetCommon, Cond.selects RX2 yX2_forgetCommon yX2_forgetCommon, Cond.initialized RX2, Cond.code yX2_forgetCommon cX2_forgetCommon 2 none, Cond.fieldLink RX2 15 "SpaceWalls$Heaps" "common" "[Z", Cond.methodLink RX1 69 yX2_rankAnew, Cond.instanceMethod yX2_rankAnew, Cond.selects RX2 yX2_rankAnew yX2_rankAnew, Cond.code yX2_rankAnew cX2_rankAnew 3 none, Cond.fieldLink RX2 35 "SpaceWalls$Heaps" "planes" "LSpaceWalls$Planes;", Cond.methodLink RX2 45 yX2_rankWith, Cond.instanceMethod yX2_rankWith, Cond.selects RX2 yX2_rankWith yX2_rankWith, Cond.code yX2_rankWith cX2_rankWith 6 none, Cond.fieldLink RX2 9 "SpaceWalls$Heaps" "rank" "[I", Cond.fieldLink RX2 31 "SpaceWalls$Heaps" "key" "LSpaceWalls$Arrow;", Cond.fieldLink RX2 19 "SpaceWalls$Heaps" "keyX" "[I", Cond.fieldLink RX2 22 "SpaceWalls$Heaps" "keyY" "[I", Cond.fieldLink RX2 25 "SpaceWalls$Heaps" "keyZ" "[I", Cond.methodLink RX2 49 yX0_set, Cond.instanceMethod yX0_set, Cond.selects RX0 yX0_set yX0_set, Cond.initialized RX0, Cond.code yX0_set cX0_set 4 none]
def wsX5_width_r3 : List Cond := [Cond.fieldLink RX0 29 "SpaceWalls$Arrow" "x" "I", Cond.fieldLink RX0 33 "SpaceWalls$Arrow" "y" "I", Cond.fieldLink RX0 36 "SpaceWalls$Arrow" "z" "I", Cond.methodLink RX2 62 yX0_crossWith, Cond.instanceMethod yX0_crossWith, Cond.selects RX0 yX0_crossWith yX0_crossWith, Cond.code yX0_crossWith cX0_crossWith 6 none, Cond.methodLink RX0 19 yX0_set, Cond.methodLink RX2 66 yX0_isNothing, Cond.instanceMethod yX0_isNothing, Cond.selects RX0 yX0_isNothing yX0_isNothing, Cond.code yX0_isNothing cX0_isNothing 1 (some .boolean), Cond.methodLink RX2 70 yX0_climb, Cond.instanceMethod yX0_climb, Cond.selects RX0 yX0_climb yX0_climb, Cond.code yX0_climb cX0_climb 3 (some .int), Cond.methodLink RX1 72 yX1_crossPlanes, Cond.instanceMethod yX1_crossPlanes, Cond.selects RX1 yX1_crossPlanes yX1_crossPlanes, Cond.code yX1_crossPlanes cX1_crossPlanes 5 none, Cond.fieldLink RX1 43 "SpaceWalls$Cut" "planes" "LSpaceWalls$Planes;", Cond.fieldLink RX1 33 "SpaceWalls$Cut" "first" "LSpaceWalls$Arrow;", Cond.methodLink RX1 85 yX2_rankOfAll, Cond.instanceMethod yX2_rankOfAll]
def wsX5_width_r4 : List Cond := [Cond.selects RX2 yX2_rankOfAll yX2_rankOfAll, Cond.code yX2_rankOfAll cX2_rankOfAll 1 (some .int), Cond.methodLink RX1 94 yX3_indexOf, Cond.instanceMethod yX3_indexOf, Cond.selects RX3 yX3_indexOf yX3_indexOf, Cond.initialized RX3, Cond.code yX3_indexOf cX3_indexOf 2 (some .int), Cond.fieldLink RX3 31 "SpaceWalls$Planes" "size" "I", Cond.methodLink RX3 45 Lib.Math.min.name, Cond.static Lib.Math.min.name, Cond.initialized "java/lang/Math", Cond.code Lib.Math.min.name Lib.Math.min.code 2 (some .int), Cond.methodLink RX1 98 yX0_alongBoth, Cond.instanceMethod yX0_alongBoth, Cond.selects RX0 yX0_alongBoth yX0_alongBoth, Cond.code yX0_alongBoth cX0_alongBoth 4 none, Cond.methodLink RX0 25 yX0_crossWith, Cond.methodLink RX1 102 yX0_isNothing, Cond.methodLink RX1 106 yX1_noteLine, Cond.instanceMethod yX1_noteLine, Cond.selects RX1 yX1_noteLine yX1_noteLine, Cond.code yX1_noteLine cX1_noteLine 5 none, Cond.fieldLink RX1 24 "SpaceWalls$Cut" "lineAbove" "[I", Cond.fieldLink RX1 27 "SpaceWalls$Cut" "lineBelow" "[I"]
def wsX5_width_r5 : List Cond := [Cond.methodLink RX1 122 yX3_signs, Cond.instanceMethod yX3_signs, Cond.selects RX3 yX3_signs yX3_signs, Cond.code yX3_signs cX3_signs 8 (some .int), Cond.fieldLink RX3 9 "SpaceWalls$Planes" "a" "[I", Cond.fieldLink RX3 15 "SpaceWalls$Planes" "b" "[I", Cond.fieldLink RX3 18 "SpaceWalls$Planes" "c" "[I", Cond.fieldLink RX3 21 "SpaceWalls$Planes" "e" "[I", Cond.static yX5_onMask, Cond.code yX5_onMask cX5_onMask 1 (some .int), Cond.static yX5_aboveMask, Cond.code yX5_aboveMask cX5_aboveMask 1 (some .int), Cond.methodLink RX1 109 yX1_noteCorner, Cond.instanceMethod yX1_noteCorner, Cond.selects RX1 yX1_noteCorner yX1_noteCorner, Cond.code yX1_noteCorner cX1_noteCorner 12 none, Cond.fieldLink RX1 37 "SpaceWalls$Cut" "second" "LSpaceWalls$Arrow;", Cond.fieldLink RX1 40 "SpaceWalls$Cut" "third" "LSpaceWalls$Arrow;", Cond.methodLink RX1 132 yX0_climb, Cond.methodLink RX1 139 yX1_reach, Cond.instanceMethod yX1_reach, Cond.selects RX1 yX1_reach yX1_reach, Cond.code yX1_reach cX1_reach 3 none, Cond.methodLink RX1 142 yX3_rowOf]
def wsX5_width_r6 : List Cond := [Cond.instanceMethod yX3_rowOf, Cond.selects RX3 yX3_rowOf yX3_rowOf, Cond.code yX3_rowOf cX3_rowOf 2 (some .int), Cond.fieldLink RX3 24 "SpaceWalls$Planes" "threes" "[I", Cond.methodLink RX1 145 yX1_isMarked, Cond.instanceMethod yX1_isMarked, Cond.selects RX1 yX1_isMarked yX1_isMarked, Cond.code yX1_isMarked cX1_isMarked 2 (some .boolean), Cond.methodLink RX1 75 yX1_moveFrom, Cond.instanceMethod yX1_moveFrom, Cond.selects RX1 yX1_moveFrom yX1_moveFrom, Cond.code yX1_moveFrom cX1_moveFrom 6 none, Cond.methodLink RX1 79 yX1_sortRows, Cond.instanceMethod yX1_sortRows, Cond.selects RX1 yX1_sortRows yX1_sortRows, Cond.code yX1_sortRows cX1_sortRows 3 none, Cond.fieldLink RX1 18 "SpaceWalls$Cut" "rows" "[I", Cond.fieldLink RX1 21 "SpaceWalls$Cut" "widths" "[I", Cond.static yX5_maskOf, Cond.code yX5_maskOf cX5_maskOf 5 (some .int), Cond.methodLink RX1 82 yX2_shareDown, Cond.instanceMethod yX2_shareDown, Cond.selects RX2 yX2_shareDown yX2_shareDown, Cond.code yX2_shareDown cX2_shareDown 3 none]
def wsX5_width_r7 : List Cond := [Cond.methodLink RX5 115 yX1_hasFace, Cond.instanceMethod yX1_hasFace, Cond.selects RX1 yX1_hasFace yX1_hasFace, Cond.code yX1_hasFace cX1_hasFace 2 (some .boolean), Cond.methodLink RX5 121 yX5_maskOf]
def wsX5_width : List Cond := .code yX5_width cX5_width 3 (some .int) :: ((wsX5_width_r1 ++ (wsX5_width_r2 ++ (wsX5_width_r3 ++ (wsX5_width_r4 ++ (wsX5_width_r5 ++ (wsX5_width_r6 ++ wsX5_width_r7)))))) ++ wsX50 ++ wsX30 ++ wsX20 ++ wsX10 ++ wsX00)
def wsX5_bounded_r1 : List Cond := [Cond.fieldLink RX5 32 "SpaceWalls" "heaps" "LSpaceWalls$Heaps;", Cond.fieldLink RX5 23 "SpaceWalls" "planes" "LSpaceWalls$Planes;", Cond.methodLink RX5 105 yX5_freshCut, Cond.instanceMethod yX5_freshCut, Cond.selects RX5 yX5_freshCut yX5_freshCut, Cond.initialized RX5, Cond.code yX5_freshCut cX5_freshCut 1 (some (.object "SpaceWalls$Cut")), Cond.fieldLink RX5 52 "SpaceWalls" "fresh" "Z", Cond.fieldLink RX5 41 "SpaceWalls" "cut" "LSpaceWalls$Cut;", Cond.methodLink RX5 163 yX1_cutAnew, Cond.instanceMethod yX1_cutAnew, Cond.selects RX1 yX1_cutAnew yX1_cutAnew, Cond.initialized RX1, Cond.code yX1_cutAnew cX1_cutAnew 2 none, Cond.fieldLink RX1 9 "SpaceWalls$Cut" "marks" "[I", Cond.fieldLink RX1 51 "SpaceWalls$Cut" "found" "I", Cond.fieldLink RX1 55 "SpaceWalls$Cut" "lines" "I", Cond.fieldLink RX1 47 "SpaceWalls$Cut" "heaps" "LSpaceWalls$Heaps;", Cond.fieldLink RX1 15 "SpaceWalls$Cut" "reached" "[I", Cond.methodLink RX1 58 yJ7_fill_53178, Cond.static yJ7_fill_53178, Cond.initialized RJ7, Cond.code yJ7_fill_53178 cJ7_fill_53178 4 none, Cond.methodLink RX1 64 yX2_forgetCommon]
def wsX5_bounded_r2 : List Cond := [Cond.instanceMethod yX2_forgetCommon, Cond.selects RX2 yX2_forgetCommon yX2_forgetCommon, Cond.initialized RX2, Cond.code yX2_forgetCommon cX2_forgetCommon 2 none, Cond.fieldLink RX2 15 "SpaceWalls$Heaps" "common" "[Z", Cond.methodLink RX1 69 yX2_rankAnew, Cond.instanceMethod yX2_rankAnew, Cond.selects RX2 yX2_rankAnew yX2_rankAnew, Cond.code yX2_rankAnew cX2_rankAnew 3 none, Cond.fieldLink RX2 35 "SpaceWalls$Heaps" "planes" "LSpaceWalls$Planes;", Cond.methodLink RX2 45 yX2_rankWith, Cond.instanceMethod yX2_rankWith, Cond.selects RX2 yX2_rankWith yX2_rankWith, Cond.code yX2_rankWith cX2_rankWith 6 none, Cond.fieldLink RX2 9 "SpaceWalls$Heaps" "rank" "[I", Cond.fieldLink RX2 31 "SpaceWalls$Heaps" "key" "LSpaceWalls$Arrow;", Cond.fieldLink RX2 19 "SpaceWalls$Heaps" "keyX" "[I", Cond.fieldLink RX2 22 "SpaceWalls$Heaps" "keyY" "[I", Cond.fieldLink RX2 25 "SpaceWalls$Heaps" "keyZ" "[I", Cond.methodLink RX2 49 yX0_set, Cond.instanceMethod yX0_set, Cond.selects RX0 yX0_set yX0_set, Cond.initialized RX0, Cond.code yX0_set cX0_set 4 none]
def wsX5_bounded_r3 : List Cond := [Cond.fieldLink RX0 29 "SpaceWalls$Arrow" "x" "I", Cond.fieldLink RX0 33 "SpaceWalls$Arrow" "y" "I", Cond.fieldLink RX0 36 "SpaceWalls$Arrow" "z" "I", Cond.methodLink RX2 62 yX0_crossWith, Cond.instanceMethod yX0_crossWith, Cond.selects RX0 yX0_crossWith yX0_crossWith, Cond.code yX0_crossWith cX0_crossWith 6 none, Cond.methodLink RX0 19 yX0_set, Cond.methodLink RX2 66 yX0_isNothing, Cond.instanceMethod yX0_isNothing, Cond.selects RX0 yX0_isNothing yX0_isNothing, Cond.code yX0_isNothing cX0_isNothing 1 (some .boolean), Cond.methodLink RX2 70 yX0_climb, Cond.instanceMethod yX0_climb, Cond.selects RX0 yX0_climb yX0_climb, Cond.code yX0_climb cX0_climb 3 (some .int), Cond.methodLink RX1 72 yX1_crossPlanes, Cond.instanceMethod yX1_crossPlanes, Cond.selects RX1 yX1_crossPlanes yX1_crossPlanes, Cond.code yX1_crossPlanes cX1_crossPlanes 5 none, Cond.fieldLink RX1 43 "SpaceWalls$Cut" "planes" "LSpaceWalls$Planes;", Cond.fieldLink RX1 33 "SpaceWalls$Cut" "first" "LSpaceWalls$Arrow;", Cond.methodLink RX1 85 yX2_rankOfAll, Cond.instanceMethod yX2_rankOfAll]
def wsX5_bounded_r4 : List Cond := [Cond.selects RX2 yX2_rankOfAll yX2_rankOfAll, Cond.code yX2_rankOfAll cX2_rankOfAll 1 (some .int), Cond.methodLink RX1 94 yX3_indexOf, Cond.instanceMethod yX3_indexOf, Cond.selects RX3 yX3_indexOf yX3_indexOf, Cond.initialized RX3, Cond.code yX3_indexOf cX3_indexOf 2 (some .int), Cond.fieldLink RX3 31 "SpaceWalls$Planes" "size" "I", Cond.methodLink RX3 45 Lib.Math.min.name, Cond.static Lib.Math.min.name, Cond.initialized "java/lang/Math", Cond.code Lib.Math.min.name Lib.Math.min.code 2 (some .int), Cond.methodLink RX1 98 yX0_alongBoth, Cond.instanceMethod yX0_alongBoth, Cond.selects RX0 yX0_alongBoth yX0_alongBoth, Cond.code yX0_alongBoth cX0_alongBoth 4 none, Cond.methodLink RX0 25 yX0_crossWith, Cond.methodLink RX1 102 yX0_isNothing, Cond.methodLink RX1 106 yX1_noteLine, Cond.instanceMethod yX1_noteLine, Cond.selects RX1 yX1_noteLine yX1_noteLine, Cond.code yX1_noteLine cX1_noteLine 5 none, Cond.fieldLink RX1 24 "SpaceWalls$Cut" "lineAbove" "[I", Cond.fieldLink RX1 27 "SpaceWalls$Cut" "lineBelow" "[I"]
def wsX5_bounded_r5 : List Cond := [Cond.methodLink RX1 122 yX3_signs, Cond.instanceMethod yX3_signs, Cond.selects RX3 yX3_signs yX3_signs, Cond.code yX3_signs cX3_signs 8 (some .int), Cond.fieldLink RX3 9 "SpaceWalls$Planes" "a" "[I", Cond.fieldLink RX3 15 "SpaceWalls$Planes" "b" "[I", Cond.fieldLink RX3 18 "SpaceWalls$Planes" "c" "[I", Cond.fieldLink RX3 21 "SpaceWalls$Planes" "e" "[I", Cond.static yX5_onMask, Cond.code yX5_onMask cX5_onMask 1 (some .int), Cond.static yX5_aboveMask, Cond.code yX5_aboveMask cX5_aboveMask 1 (some .int), Cond.methodLink RX1 109 yX1_noteCorner, Cond.instanceMethod yX1_noteCorner, Cond.selects RX1 yX1_noteCorner yX1_noteCorner, Cond.code yX1_noteCorner cX1_noteCorner 12 none, Cond.fieldLink RX1 37 "SpaceWalls$Cut" "second" "LSpaceWalls$Arrow;", Cond.fieldLink RX1 40 "SpaceWalls$Cut" "third" "LSpaceWalls$Arrow;", Cond.methodLink RX1 132 yX0_climb, Cond.methodLink RX1 139 yX1_reach, Cond.instanceMethod yX1_reach, Cond.selects RX1 yX1_reach yX1_reach, Cond.code yX1_reach cX1_reach 3 none, Cond.methodLink RX1 142 yX3_rowOf]
def wsX5_bounded_r6 : List Cond := [Cond.instanceMethod yX3_rowOf, Cond.selects RX3 yX3_rowOf yX3_rowOf, Cond.code yX3_rowOf cX3_rowOf 2 (some .int), Cond.fieldLink RX3 24 "SpaceWalls$Planes" "threes" "[I", Cond.methodLink RX1 145 yX1_isMarked, Cond.instanceMethod yX1_isMarked, Cond.selects RX1 yX1_isMarked yX1_isMarked, Cond.code yX1_isMarked cX1_isMarked 2 (some .boolean), Cond.methodLink RX1 75 yX1_moveFrom, Cond.instanceMethod yX1_moveFrom, Cond.selects RX1 yX1_moveFrom yX1_moveFrom, Cond.code yX1_moveFrom cX1_moveFrom 6 none, Cond.methodLink RX1 79 yX1_sortRows, Cond.instanceMethod yX1_sortRows, Cond.selects RX1 yX1_sortRows yX1_sortRows, Cond.code yX1_sortRows cX1_sortRows 3 none, Cond.fieldLink RX1 18 "SpaceWalls$Cut" "rows" "[I", Cond.fieldLink RX1 21 "SpaceWalls$Cut" "widths" "[I", Cond.static yX5_maskOf, Cond.code yX5_maskOf cX5_maskOf 5 (some .int), Cond.methodLink RX1 82 yX2_shareDown, Cond.instanceMethod yX2_shareDown, Cond.selects RX2 yX2_shareDown yX2_shareDown, Cond.code yX2_shareDown cX2_shareDown 3 none]
def wsX5_bounded_r7 : List Cond := [Cond.methodLink RX5 124 yX1_hasRoom, Cond.instanceMethod yX1_hasRoom, Cond.selects RX1 yX1_hasRoom yX1_hasRoom, Cond.code yX1_hasRoom cX1_hasRoom 2 (some .boolean), Cond.methodLink RX1 163 yX1_hasFace, Cond.instanceMethod yX1_hasFace, Cond.selects RX1 yX1_hasFace yX1_hasFace, Cond.code yX1_hasFace cX1_hasFace 2 (some .boolean), Cond.methodLink RX5 127 yX2_rankOfAll, Cond.methodLink RX5 121 yX5_maskOf, Cond.methodLink RX5 131 yX1_isOpen, Cond.instanceMethod yX1_isOpen, Cond.selects RX1 yX1_isOpen yX1_isOpen, Cond.code yX1_isOpen cX1_isOpen 5 (some .boolean)]
def wsX5_bounded : List Cond := .code yX5_bounded cX5_bounded 3 (some .boolean) :: ((wsX5_bounded_r1 ++ (wsX5_bounded_r2 ++ (wsX5_bounded_r3 ++ (wsX5_bounded_r4 ++ (wsX5_bounded_r5 ++ (wsX5_bounded_r6 ++ wsX5_bounded_r7)))))) ++ wsX50 ++ wsX30 ++ wsX10 ++ wsX20 ++ wsX00)
def wsX5_boundedRooms_r1 : List Cond := [Cond.fieldLink RX5 32 "SpaceWalls" "heaps" "LSpaceWalls$Heaps;", Cond.fieldLink RX5 23 "SpaceWalls" "planes" "LSpaceWalls$Planes;", Cond.methodLink RX5 137 Lib.Math.abs.name, Cond.static Lib.Math.abs.name, Cond.initialized "java/lang/Math", Cond.code Lib.Math.abs.name Lib.Math.abs.code 1 (some .int), Cond.methodLink RX5 105 yX5_freshCut, Cond.instanceMethod yX5_freshCut, Cond.selects RX5 yX5_freshCut yX5_freshCut, Cond.initialized RX5, Cond.code yX5_freshCut cX5_freshCut 1 (some (.object "SpaceWalls$Cut")), Cond.fieldLink RX5 52 "SpaceWalls" "fresh" "Z", Cond.fieldLink RX5 41 "SpaceWalls" "cut" "LSpaceWalls$Cut;", Cond.methodLink RX5 163 yX1_cutAnew, Cond.instanceMethod yX1_cutAnew, Cond.selects RX1 yX1_cutAnew yX1_cutAnew, Cond.initialized RX1, Cond.code yX1_cutAnew cX1_cutAnew 2 none, Cond.fieldLink RX1 9 "SpaceWalls$Cut" "marks" "[I", Cond.fieldLink RX1 51 "SpaceWalls$Cut" "found" "I", Cond.fieldLink RX1 55 "SpaceWalls$Cut" "lines" "I", Cond.fieldLink RX1 47 "SpaceWalls$Cut" "heaps" "LSpaceWalls$Heaps;", Cond.fieldLink RX1 15 "SpaceWalls$Cut" "reached" "[I", Cond.methodLink RX1 58 yJ7_fill_53178]
def wsX5_boundedRooms_r2 : List Cond := [Cond.static yJ7_fill_53178, Cond.initialized RJ7, Cond.code yJ7_fill_53178 cJ7_fill_53178 4 none, Cond.methodLink RX1 64 yX2_forgetCommon, Cond.instanceMethod yX2_forgetCommon, Cond.selects RX2 yX2_forgetCommon yX2_forgetCommon, Cond.initialized RX2, Cond.code yX2_forgetCommon cX2_forgetCommon 2 none, Cond.fieldLink RX2 15 "SpaceWalls$Heaps" "common" "[Z", Cond.methodLink RX1 69 yX2_rankAnew, Cond.instanceMethod yX2_rankAnew, Cond.selects RX2 yX2_rankAnew yX2_rankAnew, Cond.code yX2_rankAnew cX2_rankAnew 3 none, Cond.fieldLink RX2 35 "SpaceWalls$Heaps" "planes" "LSpaceWalls$Planes;", Cond.methodLink RX2 45 yX2_rankWith, Cond.instanceMethod yX2_rankWith, Cond.selects RX2 yX2_rankWith yX2_rankWith, Cond.code yX2_rankWith cX2_rankWith 6 none, Cond.fieldLink RX2 9 "SpaceWalls$Heaps" "rank" "[I", Cond.fieldLink RX2 31 "SpaceWalls$Heaps" "key" "LSpaceWalls$Arrow;", Cond.fieldLink RX2 19 "SpaceWalls$Heaps" "keyX" "[I", Cond.fieldLink RX2 22 "SpaceWalls$Heaps" "keyY" "[I", Cond.fieldLink RX2 25 "SpaceWalls$Heaps" "keyZ" "[I", Cond.methodLink RX2 49 yX0_set]
def wsX5_boundedRooms_r3 : List Cond := [Cond.instanceMethod yX0_set, Cond.selects RX0 yX0_set yX0_set, Cond.initialized RX0, Cond.code yX0_set cX0_set 4 none, Cond.fieldLink RX0 29 "SpaceWalls$Arrow" "x" "I", Cond.fieldLink RX0 33 "SpaceWalls$Arrow" "y" "I", Cond.fieldLink RX0 36 "SpaceWalls$Arrow" "z" "I", Cond.methodLink RX2 62 yX0_crossWith, Cond.instanceMethod yX0_crossWith, Cond.selects RX0 yX0_crossWith yX0_crossWith, Cond.code yX0_crossWith cX0_crossWith 6 none, Cond.methodLink RX0 19 yX0_set, Cond.methodLink RX2 66 yX0_isNothing, Cond.instanceMethod yX0_isNothing, Cond.selects RX0 yX0_isNothing yX0_isNothing, Cond.code yX0_isNothing cX0_isNothing 1 (some .boolean), Cond.methodLink RX2 70 yX0_climb, Cond.instanceMethod yX0_climb, Cond.selects RX0 yX0_climb yX0_climb, Cond.code yX0_climb cX0_climb 3 (some .int), Cond.methodLink RX1 72 yX1_crossPlanes, Cond.instanceMethod yX1_crossPlanes, Cond.selects RX1 yX1_crossPlanes yX1_crossPlanes, Cond.code yX1_crossPlanes cX1_crossPlanes 5 none]
def wsX5_boundedRooms_r4 : List Cond := [Cond.fieldLink RX1 43 "SpaceWalls$Cut" "planes" "LSpaceWalls$Planes;", Cond.fieldLink RX1 33 "SpaceWalls$Cut" "first" "LSpaceWalls$Arrow;", Cond.methodLink RX1 85 yX2_rankOfAll, Cond.instanceMethod yX2_rankOfAll, Cond.selects RX2 yX2_rankOfAll yX2_rankOfAll, Cond.code yX2_rankOfAll cX2_rankOfAll 1 (some .int), Cond.methodLink RX1 94 yX3_indexOf, Cond.instanceMethod yX3_indexOf, Cond.selects RX3 yX3_indexOf yX3_indexOf, Cond.initialized RX3, Cond.code yX3_indexOf cX3_indexOf 2 (some .int), Cond.fieldLink RX3 31 "SpaceWalls$Planes" "size" "I", Cond.methodLink RX3 45 Lib.Math.min.name, Cond.static Lib.Math.min.name, Cond.code Lib.Math.min.name Lib.Math.min.code 2 (some .int), Cond.methodLink RX1 98 yX0_alongBoth, Cond.instanceMethod yX0_alongBoth, Cond.selects RX0 yX0_alongBoth yX0_alongBoth, Cond.code yX0_alongBoth cX0_alongBoth 4 none, Cond.methodLink RX0 25 yX0_crossWith, Cond.methodLink RX1 102 yX0_isNothing, Cond.methodLink RX1 106 yX1_noteLine, Cond.instanceMethod yX1_noteLine, Cond.selects RX1 yX1_noteLine yX1_noteLine]
def wsX5_boundedRooms_r5 : List Cond := [Cond.code yX1_noteLine cX1_noteLine 5 none, Cond.fieldLink RX1 24 "SpaceWalls$Cut" "lineAbove" "[I", Cond.fieldLink RX1 27 "SpaceWalls$Cut" "lineBelow" "[I", Cond.methodLink RX1 122 yX3_signs, Cond.instanceMethod yX3_signs, Cond.selects RX3 yX3_signs yX3_signs, Cond.code yX3_signs cX3_signs 8 (some .int), Cond.fieldLink RX3 9 "SpaceWalls$Planes" "a" "[I", Cond.fieldLink RX3 15 "SpaceWalls$Planes" "b" "[I", Cond.fieldLink RX3 18 "SpaceWalls$Planes" "c" "[I", Cond.fieldLink RX3 21 "SpaceWalls$Planes" "e" "[I", Cond.static yX5_onMask, Cond.code yX5_onMask cX5_onMask 1 (some .int), Cond.static yX5_aboveMask, Cond.code yX5_aboveMask cX5_aboveMask 1 (some .int), Cond.methodLink RX1 109 yX1_noteCorner, Cond.instanceMethod yX1_noteCorner, Cond.selects RX1 yX1_noteCorner yX1_noteCorner, Cond.code yX1_noteCorner cX1_noteCorner 12 none, Cond.fieldLink RX1 37 "SpaceWalls$Cut" "second" "LSpaceWalls$Arrow;", Cond.fieldLink RX1 40 "SpaceWalls$Cut" "third" "LSpaceWalls$Arrow;", Cond.methodLink RX1 132 yX0_climb, Cond.methodLink RX1 139 yX1_reach, Cond.instanceMethod yX1_reach]
def wsX5_boundedRooms_r6 : List Cond := [Cond.selects RX1 yX1_reach yX1_reach, Cond.code yX1_reach cX1_reach 3 none, Cond.methodLink RX1 142 yX3_rowOf, Cond.instanceMethod yX3_rowOf, Cond.selects RX3 yX3_rowOf yX3_rowOf, Cond.code yX3_rowOf cX3_rowOf 2 (some .int), Cond.fieldLink RX3 24 "SpaceWalls$Planes" "threes" "[I", Cond.methodLink RX1 145 yX1_isMarked, Cond.instanceMethod yX1_isMarked, Cond.selects RX1 yX1_isMarked yX1_isMarked, Cond.code yX1_isMarked cX1_isMarked 2 (some .boolean), Cond.methodLink RX1 75 yX1_moveFrom, Cond.instanceMethod yX1_moveFrom, Cond.selects RX1 yX1_moveFrom yX1_moveFrom, Cond.code yX1_moveFrom cX1_moveFrom 6 none, Cond.methodLink RX1 79 yX1_sortRows, Cond.instanceMethod yX1_sortRows, Cond.selects RX1 yX1_sortRows yX1_sortRows, Cond.code yX1_sortRows cX1_sortRows 3 none, Cond.fieldLink RX1 18 "SpaceWalls$Cut" "rows" "[I", Cond.fieldLink RX1 21 "SpaceWalls$Cut" "widths" "[I", Cond.static yX5_maskOf, Cond.code yX5_maskOf cX5_maskOf 5 (some .int), Cond.methodLink RX1 82 yX2_shareDown]
def wsX5_boundedRooms_r7 : List Cond := [Cond.instanceMethod yX2_shareDown, Cond.selects RX2 yX2_shareDown yX2_shareDown, Cond.code yX2_shareDown cX2_shareDown 3 none, Cond.methodLink RX5 127 yX2_rankOfAll, Cond.methodLink RX5 134 yX2_factor, Cond.instanceMethod yX2_factor, Cond.selects RX2 yX2_factor yX2_factor, Cond.code yX2_factor cX2_factor 5 (some .int), Cond.methodLink RX2 86 yJ6_bitCount_0f7a4, Cond.static yJ6_bitCount_0f7a4, Cond.initialized RJ6, Cond.code yJ6_bitCount_0f7a4 cJ6_bitCount_0f7a4 1 (some .int), Cond.constant RJ6 265 (1431655765), Cond.constant RJ6 266 (858993459), Cond.constant RJ6 267 (252645135)]
def wsX5_boundedRooms : List Cond := .code yX5_boundedRooms cX5_boundedRooms 3 (some .int) :: ((wsX5_boundedRooms_r1 ++ (wsX5_boundedRooms_r2 ++ (wsX5_boundedRooms_r3 ++ (wsX5_boundedRooms_r4 ++ (wsX5_boundedRooms_r5 ++ (wsX5_boundedRooms_r6 ++ wsX5_boundedRooms_r7)))))) ++ wsX50 ++ wsX30 ++ wsX10 ++ wsX20 ++ wsX00)
def wsX5_poly_r1 : List Cond := [Cond.fieldLink RX5 32 "SpaceWalls" "heaps" "LSpaceWalls$Heaps;", Cond.methodLink RX5 105 yX5_freshCut, Cond.instanceMethod yX5_freshCut, Cond.selects RX5 yX5_freshCut yX5_freshCut, Cond.initialized RX5, Cond.code yX5_freshCut cX5_freshCut 1 (some (.object "SpaceWalls$Cut")), Cond.fieldLink RX5 52 "SpaceWalls" "fresh" "Z", Cond.fieldLink RX5 41 "SpaceWalls" "cut" "LSpaceWalls$Cut;", Cond.methodLink RX5 163 yX1_cutAnew, Cond.instanceMethod yX1_cutAnew, Cond.selects RX1 yX1_cutAnew yX1_cutAnew, Cond.initialized RX1, Cond.code yX1_cutAnew cX1_cutAnew 2 none, Cond.fieldLink RX1 9 "SpaceWalls$Cut" "marks" "[I", Cond.fieldLink RX1 51 "SpaceWalls$Cut" "found" "I", Cond.fieldLink RX1 55 "SpaceWalls$Cut" "lines" "I", Cond.fieldLink RX1 47 "SpaceWalls$Cut" "heaps" "LSpaceWalls$Heaps;", Cond.fieldLink RX1 15 "SpaceWalls$Cut" "reached" "[I", Cond.methodLink RX1 58 yJ7_fill_53178, Cond.static yJ7_fill_53178, Cond.initialized RJ7, Cond.code yJ7_fill_53178 cJ7_fill_53178 4 none, Cond.methodLink RX1 64 yX2_forgetCommon, Cond.instanceMethod yX2_forgetCommon]
def wsX5_poly_r2 : List Cond := [Cond.selects RX2 yX2_forgetCommon yX2_forgetCommon, Cond.initialized RX2, Cond.code yX2_forgetCommon cX2_forgetCommon 2 none, Cond.fieldLink RX2 15 "SpaceWalls$Heaps" "common" "[Z", Cond.methodLink RX1 69 yX2_rankAnew, Cond.instanceMethod yX2_rankAnew, Cond.selects RX2 yX2_rankAnew yX2_rankAnew, Cond.code yX2_rankAnew cX2_rankAnew 3 none, Cond.fieldLink RX2 35 "SpaceWalls$Heaps" "planes" "LSpaceWalls$Planes;", Cond.methodLink RX2 45 yX2_rankWith, Cond.instanceMethod yX2_rankWith, Cond.selects RX2 yX2_rankWith yX2_rankWith, Cond.code yX2_rankWith cX2_rankWith 6 none, Cond.fieldLink RX2 9 "SpaceWalls$Heaps" "rank" "[I", Cond.fieldLink RX2 31 "SpaceWalls$Heaps" "key" "LSpaceWalls$Arrow;", Cond.fieldLink RX2 19 "SpaceWalls$Heaps" "keyX" "[I", Cond.fieldLink RX2 22 "SpaceWalls$Heaps" "keyY" "[I", Cond.fieldLink RX2 25 "SpaceWalls$Heaps" "keyZ" "[I", Cond.methodLink RX2 49 yX0_set, Cond.instanceMethod yX0_set, Cond.selects RX0 yX0_set yX0_set, Cond.initialized RX0, Cond.code yX0_set cX0_set 4 none, Cond.fieldLink RX0 29 "SpaceWalls$Arrow" "x" "I"]
def wsX5_poly_r3 : List Cond := [Cond.fieldLink RX0 33 "SpaceWalls$Arrow" "y" "I", Cond.fieldLink RX0 36 "SpaceWalls$Arrow" "z" "I", Cond.methodLink RX2 62 yX0_crossWith, Cond.instanceMethod yX0_crossWith, Cond.selects RX0 yX0_crossWith yX0_crossWith, Cond.code yX0_crossWith cX0_crossWith 6 none, Cond.methodLink RX0 19 yX0_set, Cond.methodLink RX2 66 yX0_isNothing, Cond.instanceMethod yX0_isNothing, Cond.selects RX0 yX0_isNothing yX0_isNothing, Cond.code yX0_isNothing cX0_isNothing 1 (some .boolean), Cond.methodLink RX2 70 yX0_climb, Cond.instanceMethod yX0_climb, Cond.selects RX0 yX0_climb yX0_climb, Cond.code yX0_climb cX0_climb 3 (some .int), Cond.methodLink RX1 72 yX1_crossPlanes, Cond.instanceMethod yX1_crossPlanes, Cond.selects RX1 yX1_crossPlanes yX1_crossPlanes, Cond.code yX1_crossPlanes cX1_crossPlanes 5 none, Cond.fieldLink RX1 43 "SpaceWalls$Cut" "planes" "LSpaceWalls$Planes;", Cond.fieldLink RX1 33 "SpaceWalls$Cut" "first" "LSpaceWalls$Arrow;", Cond.methodLink RX1 85 yX2_rankOfAll, Cond.instanceMethod yX2_rankOfAll, Cond.selects RX2 yX2_rankOfAll yX2_rankOfAll]
def wsX5_poly_r4 : List Cond := [Cond.code yX2_rankOfAll cX2_rankOfAll 1 (some .int), Cond.methodLink RX1 94 yX3_indexOf, Cond.instanceMethod yX3_indexOf, Cond.selects RX3 yX3_indexOf yX3_indexOf, Cond.initialized RX3, Cond.code yX3_indexOf cX3_indexOf 2 (some .int), Cond.fieldLink RX3 31 "SpaceWalls$Planes" "size" "I", Cond.methodLink RX3 45 Lib.Math.min.name, Cond.static Lib.Math.min.name, Cond.initialized "java/lang/Math", Cond.code Lib.Math.min.name Lib.Math.min.code 2 (some .int), Cond.methodLink RX1 98 yX0_alongBoth, Cond.instanceMethod yX0_alongBoth, Cond.selects RX0 yX0_alongBoth yX0_alongBoth, Cond.code yX0_alongBoth cX0_alongBoth 4 none, Cond.methodLink RX0 25 yX0_crossWith, Cond.methodLink RX1 102 yX0_isNothing, Cond.methodLink RX1 106 yX1_noteLine, Cond.instanceMethod yX1_noteLine, Cond.selects RX1 yX1_noteLine yX1_noteLine, Cond.code yX1_noteLine cX1_noteLine 5 none, Cond.fieldLink RX1 24 "SpaceWalls$Cut" "lineAbove" "[I", Cond.fieldLink RX1 27 "SpaceWalls$Cut" "lineBelow" "[I", Cond.methodLink RX1 122 yX3_signs]
def wsX5_poly_r5 : List Cond := [Cond.instanceMethod yX3_signs, Cond.selects RX3 yX3_signs yX3_signs, Cond.code yX3_signs cX3_signs 8 (some .int), Cond.fieldLink RX3 9 "SpaceWalls$Planes" "a" "[I", Cond.fieldLink RX3 15 "SpaceWalls$Planes" "b" "[I", Cond.fieldLink RX3 18 "SpaceWalls$Planes" "c" "[I", Cond.fieldLink RX3 21 "SpaceWalls$Planes" "e" "[I", Cond.static yX5_onMask, Cond.code yX5_onMask cX5_onMask 1 (some .int), Cond.static yX5_aboveMask, Cond.code yX5_aboveMask cX5_aboveMask 1 (some .int), Cond.methodLink RX1 109 yX1_noteCorner, Cond.instanceMethod yX1_noteCorner, Cond.selects RX1 yX1_noteCorner yX1_noteCorner, Cond.code yX1_noteCorner cX1_noteCorner 12 none, Cond.fieldLink RX1 37 "SpaceWalls$Cut" "second" "LSpaceWalls$Arrow;", Cond.fieldLink RX1 40 "SpaceWalls$Cut" "third" "LSpaceWalls$Arrow;", Cond.methodLink RX1 132 yX0_climb, Cond.methodLink RX1 139 yX1_reach, Cond.instanceMethod yX1_reach, Cond.selects RX1 yX1_reach yX1_reach, Cond.code yX1_reach cX1_reach 3 none, Cond.methodLink RX1 142 yX3_rowOf, Cond.instanceMethod yX3_rowOf]
def wsX5_poly_r6 : List Cond := [Cond.selects RX3 yX3_rowOf yX3_rowOf, Cond.code yX3_rowOf cX3_rowOf 2 (some .int), Cond.fieldLink RX3 24 "SpaceWalls$Planes" "threes" "[I", Cond.methodLink RX1 145 yX1_isMarked, Cond.instanceMethod yX1_isMarked, Cond.selects RX1 yX1_isMarked yX1_isMarked, Cond.code yX1_isMarked cX1_isMarked 2 (some .boolean), Cond.methodLink RX1 75 yX1_moveFrom, Cond.instanceMethod yX1_moveFrom, Cond.selects RX1 yX1_moveFrom yX1_moveFrom, Cond.code yX1_moveFrom cX1_moveFrom 6 none, Cond.methodLink RX1 79 yX1_sortRows, Cond.instanceMethod yX1_sortRows, Cond.selects RX1 yX1_sortRows yX1_sortRows, Cond.code yX1_sortRows cX1_sortRows 3 none, Cond.fieldLink RX1 18 "SpaceWalls$Cut" "rows" "[I", Cond.fieldLink RX1 21 "SpaceWalls$Cut" "widths" "[I", Cond.static yX5_maskOf, Cond.code yX5_maskOf cX5_maskOf 5 (some .int), Cond.methodLink RX1 82 yX2_shareDown, Cond.instanceMethod yX2_shareDown, Cond.selects RX2 yX2_shareDown yX2_shareDown, Cond.code yX2_shareDown cX2_shareDown 3 none, Cond.methodLink RX5 134 yX2_factor]
def wsX5_poly_r7 : List Cond := [Cond.instanceMethod yX2_factor, Cond.selects RX2 yX2_factor yX2_factor, Cond.code yX2_factor cX2_factor 5 (some .int), Cond.methodLink RX2 86 yJ6_bitCount_0f7a4, Cond.static yJ6_bitCount_0f7a4, Cond.initialized RJ6, Cond.code yJ6_bitCount_0f7a4 cJ6_bitCount_0f7a4 1 (some .int), Cond.constant RJ6 265 (1431655765), Cond.constant RJ6 266 (858993459), Cond.constant RJ6 267 (252645135)]
def wsX5_poly : List Cond := .code yX5_poly cX5_poly 2 (some .int) :: ((wsX5_poly_r1 ++ (wsX5_poly_r2 ++ (wsX5_poly_r3 ++ (wsX5_poly_r4 ++ (wsX5_poly_r5 ++ (wsX5_poly_r6 ++ wsX5_poly_r7)))))) ++ wsX50 ++ wsX10 ++ wsX20 ++ wsX30 ++ wsX00)
def wsX5_without_r1 : List Cond := [Cond.fieldLink RX5 23 "SpaceWalls" "planes" "LSpaceWalls$Planes;", Cond.fieldLink RX5 32 "SpaceWalls" "heaps" "LSpaceWalls$Heaps;", Cond.methodLink RX5 71 yX3_holds, Cond.instanceMethod yX3_holds, Cond.selects RX3 yX3_holds yX3_holds, Cond.initialized RX3, Cond.code yX3_holds cX3_holds 2 (some .boolean), Cond.fieldLink RX3 31 "SpaceWalls$Planes" "size" "I", Cond.methodLink RX5 105 yX5_freshCut, Cond.instanceMethod yX5_freshCut, Cond.selects RX5 yX5_freshCut yX5_freshCut, Cond.initialized RX5, Cond.code yX5_freshCut cX5_freshCut 1 (some (.object "SpaceWalls$Cut")), Cond.fieldLink RX5 52 "SpaceWalls" "fresh" "Z", Cond.fieldLink RX5 41 "SpaceWalls" "cut" "LSpaceWalls$Cut;", Cond.methodLink RX5 163 yX1_cutAnew, Cond.instanceMethod yX1_cutAnew, Cond.selects RX1 yX1_cutAnew yX1_cutAnew, Cond.initialized RX1, Cond.code yX1_cutAnew cX1_cutAnew 2 none, Cond.fieldLink RX1 9 "SpaceWalls$Cut" "marks" "[I", Cond.fieldLink RX1 51 "SpaceWalls$Cut" "found" "I", Cond.fieldLink RX1 55 "SpaceWalls$Cut" "lines" "I", Cond.fieldLink RX1 47 "SpaceWalls$Cut" "heaps" "LSpaceWalls$Heaps;"]
def wsX5_without_r2 : List Cond := [Cond.fieldLink RX1 15 "SpaceWalls$Cut" "reached" "[I", Cond.methodLink RX1 58 yJ7_fill_53178, Cond.static yJ7_fill_53178, Cond.initialized RJ7, Cond.code yJ7_fill_53178 cJ7_fill_53178 4 none, Cond.methodLink RX1 64 yX2_forgetCommon, Cond.instanceMethod yX2_forgetCommon, Cond.selects RX2 yX2_forgetCommon yX2_forgetCommon, Cond.initialized RX2, Cond.code yX2_forgetCommon cX2_forgetCommon 2 none, Cond.fieldLink RX2 15 "SpaceWalls$Heaps" "common" "[Z", Cond.methodLink RX1 69 yX2_rankAnew, Cond.instanceMethod yX2_rankAnew, Cond.selects RX2 yX2_rankAnew yX2_rankAnew, Cond.code yX2_rankAnew cX2_rankAnew 3 none, Cond.fieldLink RX2 35 "SpaceWalls$Heaps" "planes" "LSpaceWalls$Planes;", Cond.methodLink RX2 45 yX2_rankWith, Cond.instanceMethod yX2_rankWith, Cond.selects RX2 yX2_rankWith yX2_rankWith, Cond.code yX2_rankWith cX2_rankWith 6 none, Cond.fieldLink RX2 9 "SpaceWalls$Heaps" "rank" "[I", Cond.fieldLink RX2 31 "SpaceWalls$Heaps" "key" "LSpaceWalls$Arrow;", Cond.fieldLink RX2 19 "SpaceWalls$Heaps" "keyX" "[I", Cond.fieldLink RX2 22 "SpaceWalls$Heaps" "keyY" "[I"]
def wsX5_without_r3 : List Cond := [Cond.fieldLink RX2 25 "SpaceWalls$Heaps" "keyZ" "[I", Cond.methodLink RX2 49 yX0_set, Cond.instanceMethod yX0_set, Cond.selects RX0 yX0_set yX0_set, Cond.initialized RX0, Cond.code yX0_set cX0_set 4 none, Cond.fieldLink RX0 29 "SpaceWalls$Arrow" "x" "I", Cond.fieldLink RX0 33 "SpaceWalls$Arrow" "y" "I", Cond.fieldLink RX0 36 "SpaceWalls$Arrow" "z" "I", Cond.methodLink RX2 62 yX0_crossWith, Cond.instanceMethod yX0_crossWith, Cond.selects RX0 yX0_crossWith yX0_crossWith, Cond.code yX0_crossWith cX0_crossWith 6 none, Cond.methodLink RX0 19 yX0_set, Cond.methodLink RX2 66 yX0_isNothing, Cond.instanceMethod yX0_isNothing, Cond.selects RX0 yX0_isNothing yX0_isNothing, Cond.code yX0_isNothing cX0_isNothing 1 (some .boolean), Cond.methodLink RX2 70 yX0_climb, Cond.instanceMethod yX0_climb, Cond.selects RX0 yX0_climb yX0_climb, Cond.code yX0_climb cX0_climb 3 (some .int), Cond.methodLink RX1 72 yX1_crossPlanes, Cond.instanceMethod yX1_crossPlanes]
def wsX5_without_r4 : List Cond := [Cond.selects RX1 yX1_crossPlanes yX1_crossPlanes, Cond.code yX1_crossPlanes cX1_crossPlanes 5 none, Cond.fieldLink RX1 43 "SpaceWalls$Cut" "planes" "LSpaceWalls$Planes;", Cond.fieldLink RX1 33 "SpaceWalls$Cut" "first" "LSpaceWalls$Arrow;", Cond.methodLink RX1 85 yX2_rankOfAll, Cond.instanceMethod yX2_rankOfAll, Cond.selects RX2 yX2_rankOfAll yX2_rankOfAll, Cond.code yX2_rankOfAll cX2_rankOfAll 1 (some .int), Cond.methodLink RX1 94 yX3_indexOf, Cond.instanceMethod yX3_indexOf, Cond.selects RX3 yX3_indexOf yX3_indexOf, Cond.code yX3_indexOf cX3_indexOf 2 (some .int), Cond.methodLink RX3 45 Lib.Math.min.name, Cond.static Lib.Math.min.name, Cond.initialized "java/lang/Math", Cond.code Lib.Math.min.name Lib.Math.min.code 2 (some .int), Cond.methodLink RX1 98 yX0_alongBoth, Cond.instanceMethod yX0_alongBoth, Cond.selects RX0 yX0_alongBoth yX0_alongBoth, Cond.code yX0_alongBoth cX0_alongBoth 4 none, Cond.methodLink RX0 25 yX0_crossWith, Cond.methodLink RX1 102 yX0_isNothing, Cond.methodLink RX1 106 yX1_noteLine, Cond.instanceMethod yX1_noteLine]
def wsX5_without_r5 : List Cond := [Cond.selects RX1 yX1_noteLine yX1_noteLine, Cond.code yX1_noteLine cX1_noteLine 5 none, Cond.fieldLink RX1 24 "SpaceWalls$Cut" "lineAbove" "[I", Cond.fieldLink RX1 27 "SpaceWalls$Cut" "lineBelow" "[I", Cond.methodLink RX1 122 yX3_signs, Cond.instanceMethod yX3_signs, Cond.selects RX3 yX3_signs yX3_signs, Cond.code yX3_signs cX3_signs 8 (some .int), Cond.fieldLink RX3 9 "SpaceWalls$Planes" "a" "[I", Cond.fieldLink RX3 15 "SpaceWalls$Planes" "b" "[I", Cond.fieldLink RX3 18 "SpaceWalls$Planes" "c" "[I", Cond.fieldLink RX3 21 "SpaceWalls$Planes" "e" "[I", Cond.static yX5_onMask, Cond.code yX5_onMask cX5_onMask 1 (some .int), Cond.static yX5_aboveMask, Cond.code yX5_aboveMask cX5_aboveMask 1 (some .int), Cond.methodLink RX1 109 yX1_noteCorner, Cond.instanceMethod yX1_noteCorner, Cond.selects RX1 yX1_noteCorner yX1_noteCorner, Cond.code yX1_noteCorner cX1_noteCorner 12 none, Cond.fieldLink RX1 37 "SpaceWalls$Cut" "second" "LSpaceWalls$Arrow;", Cond.fieldLink RX1 40 "SpaceWalls$Cut" "third" "LSpaceWalls$Arrow;", Cond.methodLink RX1 132 yX0_climb, Cond.methodLink RX1 139 yX1_reach]
def wsX5_without_r6 : List Cond := [Cond.instanceMethod yX1_reach, Cond.selects RX1 yX1_reach yX1_reach, Cond.code yX1_reach cX1_reach 3 none, Cond.methodLink RX1 142 yX3_rowOf, Cond.instanceMethod yX3_rowOf, Cond.selects RX3 yX3_rowOf yX3_rowOf, Cond.code yX3_rowOf cX3_rowOf 2 (some .int), Cond.fieldLink RX3 24 "SpaceWalls$Planes" "threes" "[I", Cond.methodLink RX1 145 yX1_isMarked, Cond.instanceMethod yX1_isMarked, Cond.selects RX1 yX1_isMarked yX1_isMarked, Cond.code yX1_isMarked cX1_isMarked 2 (some .boolean), Cond.methodLink RX1 75 yX1_moveFrom, Cond.instanceMethod yX1_moveFrom, Cond.selects RX1 yX1_moveFrom yX1_moveFrom, Cond.code yX1_moveFrom cX1_moveFrom 6 none, Cond.methodLink RX1 79 yX1_sortRows, Cond.instanceMethod yX1_sortRows, Cond.selects RX1 yX1_sortRows yX1_sortRows, Cond.code yX1_sortRows cX1_sortRows 3 none, Cond.fieldLink RX1 18 "SpaceWalls$Cut" "rows" "[I", Cond.fieldLink RX1 21 "SpaceWalls$Cut" "widths" "[I", Cond.static yX5_maskOf, Cond.code yX5_maskOf cX5_maskOf 5 (some .int)]
def wsX5_without_r7 : List Cond := [Cond.methodLink RX1 82 yX2_shareDown, Cond.instanceMethod yX2_shareDown, Cond.selects RX2 yX2_shareDown yX2_shareDown, Cond.code yX2_shareDown cX2_shareDown 3 none, Cond.methodLink RX5 134 yX2_factor, Cond.instanceMethod yX2_factor, Cond.selects RX2 yX2_factor yX2_factor, Cond.code yX2_factor cX2_factor 5 (some .int), Cond.methodLink RX2 86 yJ6_bitCount_0f7a4, Cond.static yJ6_bitCount_0f7a4, Cond.initialized RJ6, Cond.code yJ6_bitCount_0f7a4 cJ6_bitCount_0f7a4 1 (some .int), Cond.constant RJ6 265 (1431655765), Cond.constant RJ6 266 (858993459), Cond.constant RJ6 267 (252645135)]
def wsX5_without : List Cond := .code yX5_without cX5_without 3 (some .int) :: ((wsX5_without_r1 ++ (wsX5_without_r2 ++ (wsX5_without_r3 ++ (wsX5_without_r4 ++ (wsX5_without_r5 ++ (wsX5_without_r6 ++ wsX5_without_r7)))))) ++ wsX50 ++ wsX30 ++ wsX10 ++ wsX20 ++ wsX00)
def wsX5_on_r1 : List Cond := [Cond.fieldLink RX5 23 "SpaceWalls" "planes" "LSpaceWalls$Planes;", Cond.fieldLink RX5 32 "SpaceWalls" "heaps" "LSpaceWalls$Heaps;", Cond.methodLink RX5 71 yX3_holds, Cond.instanceMethod yX3_holds, Cond.selects RX3 yX3_holds yX3_holds, Cond.initialized RX3, Cond.code yX3_holds cX3_holds 2 (some .boolean), Cond.fieldLink RX3 31 "SpaceWalls$Planes" "size" "I", Cond.methodLink RX5 105 yX5_freshCut, Cond.instanceMethod yX5_freshCut, Cond.selects RX5 yX5_freshCut yX5_freshCut, Cond.initialized RX5, Cond.code yX5_freshCut cX5_freshCut 1 (some (.object "SpaceWalls$Cut")), Cond.fieldLink RX5 52 "SpaceWalls" "fresh" "Z", Cond.fieldLink RX5 41 "SpaceWalls" "cut" "LSpaceWalls$Cut;", Cond.methodLink RX5 163 yX1_cutAnew, Cond.instanceMethod yX1_cutAnew, Cond.selects RX1 yX1_cutAnew yX1_cutAnew, Cond.initialized RX1, Cond.code yX1_cutAnew cX1_cutAnew 2 none, Cond.fieldLink RX1 9 "SpaceWalls$Cut" "marks" "[I", Cond.fieldLink RX1 51 "SpaceWalls$Cut" "found" "I", Cond.fieldLink RX1 55 "SpaceWalls$Cut" "lines" "I", Cond.fieldLink RX1 47 "SpaceWalls$Cut" "heaps" "LSpaceWalls$Heaps;"]
def wsX5_on_r2 : List Cond := [Cond.fieldLink RX1 15 "SpaceWalls$Cut" "reached" "[I", Cond.methodLink RX1 58 yJ7_fill_53178, Cond.static yJ7_fill_53178, Cond.initialized RJ7, Cond.code yJ7_fill_53178 cJ7_fill_53178 4 none, Cond.methodLink RX1 64 yX2_forgetCommon, Cond.instanceMethod yX2_forgetCommon, Cond.selects RX2 yX2_forgetCommon yX2_forgetCommon, Cond.initialized RX2, Cond.code yX2_forgetCommon cX2_forgetCommon 2 none, Cond.fieldLink RX2 15 "SpaceWalls$Heaps" "common" "[Z", Cond.methodLink RX1 69 yX2_rankAnew, Cond.instanceMethod yX2_rankAnew, Cond.selects RX2 yX2_rankAnew yX2_rankAnew, Cond.code yX2_rankAnew cX2_rankAnew 3 none, Cond.fieldLink RX2 35 "SpaceWalls$Heaps" "planes" "LSpaceWalls$Planes;", Cond.methodLink RX2 45 yX2_rankWith, Cond.instanceMethod yX2_rankWith, Cond.selects RX2 yX2_rankWith yX2_rankWith, Cond.code yX2_rankWith cX2_rankWith 6 none, Cond.fieldLink RX2 9 "SpaceWalls$Heaps" "rank" "[I", Cond.fieldLink RX2 31 "SpaceWalls$Heaps" "key" "LSpaceWalls$Arrow;", Cond.fieldLink RX2 19 "SpaceWalls$Heaps" "keyX" "[I", Cond.fieldLink RX2 22 "SpaceWalls$Heaps" "keyY" "[I"]
def wsX5_on_r3 : List Cond := [Cond.fieldLink RX2 25 "SpaceWalls$Heaps" "keyZ" "[I", Cond.methodLink RX2 49 yX0_set, Cond.instanceMethod yX0_set, Cond.selects RX0 yX0_set yX0_set, Cond.initialized RX0, Cond.code yX0_set cX0_set 4 none, Cond.fieldLink RX0 29 "SpaceWalls$Arrow" "x" "I", Cond.fieldLink RX0 33 "SpaceWalls$Arrow" "y" "I", Cond.fieldLink RX0 36 "SpaceWalls$Arrow" "z" "I", Cond.methodLink RX2 62 yX0_crossWith, Cond.instanceMethod yX0_crossWith, Cond.selects RX0 yX0_crossWith yX0_crossWith, Cond.code yX0_crossWith cX0_crossWith 6 none, Cond.methodLink RX0 19 yX0_set, Cond.methodLink RX2 66 yX0_isNothing, Cond.instanceMethod yX0_isNothing, Cond.selects RX0 yX0_isNothing yX0_isNothing, Cond.code yX0_isNothing cX0_isNothing 1 (some .boolean), Cond.methodLink RX2 70 yX0_climb, Cond.instanceMethod yX0_climb, Cond.selects RX0 yX0_climb yX0_climb, Cond.code yX0_climb cX0_climb 3 (some .int), Cond.methodLink RX1 72 yX1_crossPlanes, Cond.instanceMethod yX1_crossPlanes]
def wsX5_on_r4 : List Cond := [Cond.selects RX1 yX1_crossPlanes yX1_crossPlanes, Cond.code yX1_crossPlanes cX1_crossPlanes 5 none, Cond.fieldLink RX1 43 "SpaceWalls$Cut" "planes" "LSpaceWalls$Planes;", Cond.fieldLink RX1 33 "SpaceWalls$Cut" "first" "LSpaceWalls$Arrow;", Cond.methodLink RX1 85 yX2_rankOfAll, Cond.instanceMethod yX2_rankOfAll, Cond.selects RX2 yX2_rankOfAll yX2_rankOfAll, Cond.code yX2_rankOfAll cX2_rankOfAll 1 (some .int), Cond.methodLink RX1 94 yX3_indexOf, Cond.instanceMethod yX3_indexOf, Cond.selects RX3 yX3_indexOf yX3_indexOf, Cond.code yX3_indexOf cX3_indexOf 2 (some .int), Cond.methodLink RX3 45 Lib.Math.min.name, Cond.static Lib.Math.min.name, Cond.initialized "java/lang/Math", Cond.code Lib.Math.min.name Lib.Math.min.code 2 (some .int), Cond.methodLink RX1 98 yX0_alongBoth, Cond.instanceMethod yX0_alongBoth, Cond.selects RX0 yX0_alongBoth yX0_alongBoth, Cond.code yX0_alongBoth cX0_alongBoth 4 none, Cond.methodLink RX0 25 yX0_crossWith, Cond.methodLink RX1 102 yX0_isNothing, Cond.methodLink RX1 106 yX1_noteLine, Cond.instanceMethod yX1_noteLine]
def wsX5_on_r5 : List Cond := [Cond.selects RX1 yX1_noteLine yX1_noteLine, Cond.code yX1_noteLine cX1_noteLine 5 none, Cond.fieldLink RX1 24 "SpaceWalls$Cut" "lineAbove" "[I", Cond.fieldLink RX1 27 "SpaceWalls$Cut" "lineBelow" "[I", Cond.methodLink RX1 122 yX3_signs, Cond.instanceMethod yX3_signs, Cond.selects RX3 yX3_signs yX3_signs, Cond.code yX3_signs cX3_signs 8 (some .int), Cond.fieldLink RX3 9 "SpaceWalls$Planes" "a" "[I", Cond.fieldLink RX3 15 "SpaceWalls$Planes" "b" "[I", Cond.fieldLink RX3 18 "SpaceWalls$Planes" "c" "[I", Cond.fieldLink RX3 21 "SpaceWalls$Planes" "e" "[I", Cond.static yX5_onMask, Cond.code yX5_onMask cX5_onMask 1 (some .int), Cond.static yX5_aboveMask, Cond.code yX5_aboveMask cX5_aboveMask 1 (some .int), Cond.methodLink RX1 109 yX1_noteCorner, Cond.instanceMethod yX1_noteCorner, Cond.selects RX1 yX1_noteCorner yX1_noteCorner, Cond.code yX1_noteCorner cX1_noteCorner 12 none, Cond.fieldLink RX1 37 "SpaceWalls$Cut" "second" "LSpaceWalls$Arrow;", Cond.fieldLink RX1 40 "SpaceWalls$Cut" "third" "LSpaceWalls$Arrow;", Cond.methodLink RX1 132 yX0_climb, Cond.methodLink RX1 139 yX1_reach]
def wsX5_on_r6 : List Cond := [Cond.instanceMethod yX1_reach, Cond.selects RX1 yX1_reach yX1_reach, Cond.code yX1_reach cX1_reach 3 none, Cond.methodLink RX1 142 yX3_rowOf, Cond.instanceMethod yX3_rowOf, Cond.selects RX3 yX3_rowOf yX3_rowOf, Cond.code yX3_rowOf cX3_rowOf 2 (some .int), Cond.fieldLink RX3 24 "SpaceWalls$Planes" "threes" "[I", Cond.methodLink RX1 145 yX1_isMarked, Cond.instanceMethod yX1_isMarked, Cond.selects RX1 yX1_isMarked yX1_isMarked, Cond.code yX1_isMarked cX1_isMarked 2 (some .boolean), Cond.methodLink RX1 75 yX1_moveFrom, Cond.instanceMethod yX1_moveFrom, Cond.selects RX1 yX1_moveFrom yX1_moveFrom, Cond.code yX1_moveFrom cX1_moveFrom 6 none, Cond.methodLink RX1 79 yX1_sortRows, Cond.instanceMethod yX1_sortRows, Cond.selects RX1 yX1_sortRows yX1_sortRows, Cond.code yX1_sortRows cX1_sortRows 3 none, Cond.fieldLink RX1 18 "SpaceWalls$Cut" "rows" "[I", Cond.fieldLink RX1 21 "SpaceWalls$Cut" "widths" "[I", Cond.static yX5_maskOf, Cond.code yX5_maskOf cX5_maskOf 5 (some .int)]
def wsX5_on_r7 : List Cond := [Cond.methodLink RX1 82 yX2_shareDown, Cond.instanceMethod yX2_shareDown, Cond.selects RX2 yX2_shareDown yX2_shareDown, Cond.code yX2_shareDown cX2_shareDown 3 none, Cond.methodLink RX5 134 yX2_factor, Cond.instanceMethod yX2_factor, Cond.selects RX2 yX2_factor yX2_factor, Cond.code yX2_factor cX2_factor 5 (some .int), Cond.methodLink RX2 86 yJ6_bitCount_0f7a4, Cond.static yJ6_bitCount_0f7a4, Cond.initialized RJ6, Cond.code yJ6_bitCount_0f7a4 cJ6_bitCount_0f7a4 1 (some .int), Cond.constant RJ6 265 (1431655765), Cond.constant RJ6 266 (858993459), Cond.constant RJ6 267 (252645135)]
def wsX5_on : List Cond := .code yX5_on cX5_on 3 (some .int) :: ((wsX5_on_r1 ++ (wsX5_on_r2 ++ (wsX5_on_r3 ++ (wsX5_on_r4 ++ (wsX5_on_r5 ++ (wsX5_on_r6 ++ wsX5_on_r7)))))) ++ wsX50 ++ wsX30 ++ wsX10 ++ wsX20 ++ wsX00)
def wsX5_walls_r1 : List Cond := [Cond.methodLink RX5 105 yX5_freshCut, Cond.instanceMethod yX5_freshCut, Cond.selects RX5 yX5_freshCut yX5_freshCut, Cond.initialized RX5, Cond.code yX5_freshCut cX5_freshCut 1 (some (.object "SpaceWalls$Cut")), Cond.fieldLink RX5 52 "SpaceWalls" "fresh" "Z", Cond.fieldLink RX5 41 "SpaceWalls" "cut" "LSpaceWalls$Cut;", Cond.methodLink RX5 163 yX1_cutAnew, Cond.instanceMethod yX1_cutAnew, Cond.selects RX1 yX1_cutAnew yX1_cutAnew, Cond.initialized RX1, Cond.code yX1_cutAnew cX1_cutAnew 2 none, Cond.fieldLink RX1 9 "SpaceWalls$Cut" "marks" "[I", Cond.fieldLink RX1 51 "SpaceWalls$Cut" "found" "I", Cond.fieldLink RX1 55 "SpaceWalls$Cut" "lines" "I", Cond.fieldLink RX1 47 "SpaceWalls$Cut" "heaps" "LSpaceWalls$Heaps;", Cond.fieldLink RX1 15 "SpaceWalls$Cut" "reached" "[I", Cond.methodLink RX1 58 yJ7_fill_53178, Cond.static yJ7_fill_53178, Cond.initialized RJ7, Cond.code yJ7_fill_53178 cJ7_fill_53178 4 none, Cond.methodLink RX1 64 yX2_forgetCommon, Cond.instanceMethod yX2_forgetCommon, Cond.selects RX2 yX2_forgetCommon yX2_forgetCommon]
def wsX5_walls_r2 : List Cond := [Cond.initialized RX2, Cond.code yX2_forgetCommon cX2_forgetCommon 2 none, Cond.fieldLink RX2 15 "SpaceWalls$Heaps" "common" "[Z", Cond.methodLink RX1 69 yX2_rankAnew, Cond.instanceMethod yX2_rankAnew, Cond.selects RX2 yX2_rankAnew yX2_rankAnew, Cond.code yX2_rankAnew cX2_rankAnew 3 none, Cond.fieldLink RX2 35 "SpaceWalls$Heaps" "planes" "LSpaceWalls$Planes;", Cond.methodLink RX2 45 yX2_rankWith, Cond.instanceMethod yX2_rankWith, Cond.selects RX2 yX2_rankWith yX2_rankWith, Cond.code yX2_rankWith cX2_rankWith 6 none, Cond.fieldLink RX2 9 "SpaceWalls$Heaps" "rank" "[I", Cond.fieldLink RX2 31 "SpaceWalls$Heaps" "key" "LSpaceWalls$Arrow;", Cond.fieldLink RX2 19 "SpaceWalls$Heaps" "keyX" "[I", Cond.fieldLink RX2 22 "SpaceWalls$Heaps" "keyY" "[I", Cond.fieldLink RX2 25 "SpaceWalls$Heaps" "keyZ" "[I", Cond.methodLink RX2 49 yX0_set, Cond.instanceMethod yX0_set, Cond.selects RX0 yX0_set yX0_set, Cond.initialized RX0, Cond.code yX0_set cX0_set 4 none, Cond.fieldLink RX0 29 "SpaceWalls$Arrow" "x" "I", Cond.fieldLink RX0 33 "SpaceWalls$Arrow" "y" "I"]
def wsX5_walls_r3 : List Cond := [Cond.fieldLink RX0 36 "SpaceWalls$Arrow" "z" "I", Cond.methodLink RX2 62 yX0_crossWith, Cond.instanceMethod yX0_crossWith, Cond.selects RX0 yX0_crossWith yX0_crossWith, Cond.code yX0_crossWith cX0_crossWith 6 none, Cond.methodLink RX0 19 yX0_set, Cond.methodLink RX2 66 yX0_isNothing, Cond.instanceMethod yX0_isNothing, Cond.selects RX0 yX0_isNothing yX0_isNothing, Cond.code yX0_isNothing cX0_isNothing 1 (some .boolean), Cond.methodLink RX2 70 yX0_climb, Cond.instanceMethod yX0_climb, Cond.selects RX0 yX0_climb yX0_climb, Cond.code yX0_climb cX0_climb 3 (some .int), Cond.methodLink RX1 72 yX1_crossPlanes, Cond.instanceMethod yX1_crossPlanes, Cond.selects RX1 yX1_crossPlanes yX1_crossPlanes, Cond.code yX1_crossPlanes cX1_crossPlanes 5 none, Cond.fieldLink RX1 43 "SpaceWalls$Cut" "planes" "LSpaceWalls$Planes;", Cond.fieldLink RX1 33 "SpaceWalls$Cut" "first" "LSpaceWalls$Arrow;", Cond.methodLink RX1 85 yX2_rankOfAll, Cond.instanceMethod yX2_rankOfAll, Cond.selects RX2 yX2_rankOfAll yX2_rankOfAll, Cond.code yX2_rankOfAll cX2_rankOfAll 1 (some .int)]
def wsX5_walls_r4 : List Cond := [Cond.methodLink RX1 94 yX3_indexOf, Cond.instanceMethod yX3_indexOf, Cond.selects RX3 yX3_indexOf yX3_indexOf, Cond.initialized RX3, Cond.code yX3_indexOf cX3_indexOf 2 (some .int), Cond.fieldLink RX3 31 "SpaceWalls$Planes" "size" "I", Cond.methodLink RX3 45 Lib.Math.min.name, Cond.static Lib.Math.min.name, Cond.initialized "java/lang/Math", Cond.code Lib.Math.min.name Lib.Math.min.code 2 (some .int), Cond.methodLink RX1 98 yX0_alongBoth, Cond.instanceMethod yX0_alongBoth, Cond.selects RX0 yX0_alongBoth yX0_alongBoth, Cond.code yX0_alongBoth cX0_alongBoth 4 none, Cond.methodLink RX0 25 yX0_crossWith, Cond.methodLink RX1 102 yX0_isNothing, Cond.methodLink RX1 106 yX1_noteLine, Cond.instanceMethod yX1_noteLine, Cond.selects RX1 yX1_noteLine yX1_noteLine, Cond.code yX1_noteLine cX1_noteLine 5 none, Cond.fieldLink RX1 24 "SpaceWalls$Cut" "lineAbove" "[I", Cond.fieldLink RX1 27 "SpaceWalls$Cut" "lineBelow" "[I", Cond.methodLink RX1 122 yX3_signs, Cond.instanceMethod yX3_signs]
def wsX5_walls_r5 : List Cond := [Cond.selects RX3 yX3_signs yX3_signs, Cond.code yX3_signs cX3_signs 8 (some .int), Cond.fieldLink RX3 9 "SpaceWalls$Planes" "a" "[I", Cond.fieldLink RX3 15 "SpaceWalls$Planes" "b" "[I", Cond.fieldLink RX3 18 "SpaceWalls$Planes" "c" "[I", Cond.fieldLink RX3 21 "SpaceWalls$Planes" "e" "[I", Cond.static yX5_onMask, Cond.code yX5_onMask cX5_onMask 1 (some .int), Cond.static yX5_aboveMask, Cond.code yX5_aboveMask cX5_aboveMask 1 (some .int), Cond.methodLink RX1 109 yX1_noteCorner, Cond.instanceMethod yX1_noteCorner, Cond.selects RX1 yX1_noteCorner yX1_noteCorner, Cond.code yX1_noteCorner cX1_noteCorner 12 none, Cond.fieldLink RX1 37 "SpaceWalls$Cut" "second" "LSpaceWalls$Arrow;", Cond.fieldLink RX1 40 "SpaceWalls$Cut" "third" "LSpaceWalls$Arrow;", Cond.methodLink RX1 132 yX0_climb, Cond.methodLink RX1 139 yX1_reach, Cond.instanceMethod yX1_reach, Cond.selects RX1 yX1_reach yX1_reach, Cond.code yX1_reach cX1_reach 3 none, Cond.methodLink RX1 142 yX3_rowOf, Cond.instanceMethod yX3_rowOf, Cond.selects RX3 yX3_rowOf yX3_rowOf]
def wsX5_walls_r6 : List Cond := [Cond.code yX3_rowOf cX3_rowOf 2 (some .int), Cond.fieldLink RX3 24 "SpaceWalls$Planes" "threes" "[I", Cond.methodLink RX1 145 yX1_isMarked, Cond.instanceMethod yX1_isMarked, Cond.selects RX1 yX1_isMarked yX1_isMarked, Cond.code yX1_isMarked cX1_isMarked 2 (some .boolean), Cond.methodLink RX1 75 yX1_moveFrom, Cond.instanceMethod yX1_moveFrom, Cond.selects RX1 yX1_moveFrom yX1_moveFrom, Cond.code yX1_moveFrom cX1_moveFrom 6 none, Cond.methodLink RX1 79 yX1_sortRows, Cond.instanceMethod yX1_sortRows, Cond.selects RX1 yX1_sortRows yX1_sortRows, Cond.code yX1_sortRows cX1_sortRows 3 none, Cond.fieldLink RX1 18 "SpaceWalls$Cut" "rows" "[I", Cond.fieldLink RX1 21 "SpaceWalls$Cut" "widths" "[I", Cond.static yX5_maskOf, Cond.code yX5_maskOf cX5_maskOf 5 (some .int), Cond.methodLink RX1 82 yX2_shareDown, Cond.instanceMethod yX2_shareDown, Cond.selects RX2 yX2_shareDown yX2_shareDown, Cond.code yX2_shareDown cX2_shareDown 3 none, Cond.methodLink RX5 124 yX1_hasRoom, Cond.instanceMethod yX1_hasRoom]
def wsX5_walls_r7 : List Cond := [Cond.selects RX1 yX1_hasRoom yX1_hasRoom, Cond.code yX1_hasRoom cX1_hasRoom 2 (some .boolean), Cond.methodLink RX1 163 yX1_hasFace, Cond.instanceMethod yX1_hasFace, Cond.selects RX1 yX1_hasFace yX1_hasFace, Cond.code yX1_hasFace cX1_hasFace 2 (some .boolean), Cond.methodLink RX5 140 yX1_wallsOf, Cond.instanceMethod yX1_wallsOf, Cond.selects RX1 yX1_wallsOf yX1_wallsOf, Cond.code yX1_wallsOf cX1_wallsOf 4 (some .int), Cond.static yX5_across, Cond.code yX5_across cX5_across 3 (some .int), Cond.fieldLink RX5 168 "SpaceWalls" "POWERS" "[I", Cond.methodLink RX1 169 yX1_hasRoom]
def wsX5_walls : List Cond := .code yX5_walls cX5_walls 3 (some .int) :: ((wsX5_walls_r1 ++ (wsX5_walls_r2 ++ (wsX5_walls_r3 ++ (wsX5_walls_r4 ++ (wsX5_walls_r5 ++ (wsX5_walls_r6 ++ wsX5_walls_r7)))))) ++ wsX50 ++ wsX10 ++ wsX20 ++ wsX30 ++ wsX00)
def wsX5_beside_r1 : List Cond := [Cond.fieldLink RX5 23 "SpaceWalls" "planes" "LSpaceWalls$Planes;", Cond.methodLink RX5 105 yX5_freshCut, Cond.instanceMethod yX5_freshCut, Cond.selects RX5 yX5_freshCut yX5_freshCut, Cond.initialized RX5, Cond.code yX5_freshCut cX5_freshCut 1 (some (.object "SpaceWalls$Cut")), Cond.fieldLink RX5 52 "SpaceWalls" "fresh" "Z", Cond.fieldLink RX5 41 "SpaceWalls" "cut" "LSpaceWalls$Cut;", Cond.methodLink RX5 163 yX1_cutAnew, Cond.instanceMethod yX1_cutAnew, Cond.selects RX1 yX1_cutAnew yX1_cutAnew, Cond.initialized RX1, Cond.code yX1_cutAnew cX1_cutAnew 2 none, Cond.fieldLink RX1 9 "SpaceWalls$Cut" "marks" "[I", Cond.fieldLink RX1 51 "SpaceWalls$Cut" "found" "I", Cond.fieldLink RX1 55 "SpaceWalls$Cut" "lines" "I", Cond.fieldLink RX1 47 "SpaceWalls$Cut" "heaps" "LSpaceWalls$Heaps;", Cond.fieldLink RX1 15 "SpaceWalls$Cut" "reached" "[I", Cond.methodLink RX1 58 yJ7_fill_53178, Cond.static yJ7_fill_53178, Cond.initialized RJ7, Cond.code yJ7_fill_53178 cJ7_fill_53178 4 none, Cond.methodLink RX1 64 yX2_forgetCommon, Cond.instanceMethod yX2_forgetCommon]
def wsX5_beside_r2 : List Cond := [Cond.selects RX2 yX2_forgetCommon yX2_forgetCommon, Cond.initialized RX2, Cond.code yX2_forgetCommon cX2_forgetCommon 2 none, Cond.fieldLink RX2 15 "SpaceWalls$Heaps" "common" "[Z", Cond.methodLink RX1 69 yX2_rankAnew, Cond.instanceMethod yX2_rankAnew, Cond.selects RX2 yX2_rankAnew yX2_rankAnew, Cond.code yX2_rankAnew cX2_rankAnew 3 none, Cond.fieldLink RX2 35 "SpaceWalls$Heaps" "planes" "LSpaceWalls$Planes;", Cond.methodLink RX2 45 yX2_rankWith, Cond.instanceMethod yX2_rankWith, Cond.selects RX2 yX2_rankWith yX2_rankWith, Cond.code yX2_rankWith cX2_rankWith 6 none, Cond.fieldLink RX2 9 "SpaceWalls$Heaps" "rank" "[I", Cond.fieldLink RX2 31 "SpaceWalls$Heaps" "key" "LSpaceWalls$Arrow;", Cond.fieldLink RX2 19 "SpaceWalls$Heaps" "keyX" "[I", Cond.fieldLink RX2 22 "SpaceWalls$Heaps" "keyY" "[I", Cond.fieldLink RX2 25 "SpaceWalls$Heaps" "keyZ" "[I", Cond.methodLink RX2 49 yX0_set, Cond.instanceMethod yX0_set, Cond.selects RX0 yX0_set yX0_set, Cond.initialized RX0, Cond.code yX0_set cX0_set 4 none, Cond.fieldLink RX0 29 "SpaceWalls$Arrow" "x" "I"]
def wsX5_beside_r3 : List Cond := [Cond.fieldLink RX0 33 "SpaceWalls$Arrow" "y" "I", Cond.fieldLink RX0 36 "SpaceWalls$Arrow" "z" "I", Cond.methodLink RX2 62 yX0_crossWith, Cond.instanceMethod yX0_crossWith, Cond.selects RX0 yX0_crossWith yX0_crossWith, Cond.code yX0_crossWith cX0_crossWith 6 none, Cond.methodLink RX0 19 yX0_set, Cond.methodLink RX2 66 yX0_isNothing, Cond.instanceMethod yX0_isNothing, Cond.selects RX0 yX0_isNothing yX0_isNothing, Cond.code yX0_isNothing cX0_isNothing 1 (some .boolean), Cond.methodLink RX2 70 yX0_climb, Cond.instanceMethod yX0_climb, Cond.selects RX0 yX0_climb yX0_climb, Cond.code yX0_climb cX0_climb 3 (some .int), Cond.methodLink RX1 72 yX1_crossPlanes, Cond.instanceMethod yX1_crossPlanes, Cond.selects RX1 yX1_crossPlanes yX1_crossPlanes, Cond.code yX1_crossPlanes cX1_crossPlanes 5 none, Cond.fieldLink RX1 43 "SpaceWalls$Cut" "planes" "LSpaceWalls$Planes;", Cond.fieldLink RX1 33 "SpaceWalls$Cut" "first" "LSpaceWalls$Arrow;", Cond.methodLink RX1 85 yX2_rankOfAll, Cond.instanceMethod yX2_rankOfAll, Cond.selects RX2 yX2_rankOfAll yX2_rankOfAll]
def wsX5_beside_r4 : List Cond := [Cond.code yX2_rankOfAll cX2_rankOfAll 1 (some .int), Cond.methodLink RX1 94 yX3_indexOf, Cond.instanceMethod yX3_indexOf, Cond.selects RX3 yX3_indexOf yX3_indexOf, Cond.initialized RX3, Cond.code yX3_indexOf cX3_indexOf 2 (some .int), Cond.fieldLink RX3 31 "SpaceWalls$Planes" "size" "I", Cond.methodLink RX3 45 Lib.Math.min.name, Cond.static Lib.Math.min.name, Cond.initialized "java/lang/Math", Cond.code Lib.Math.min.name Lib.Math.min.code 2 (some .int), Cond.methodLink RX1 98 yX0_alongBoth, Cond.instanceMethod yX0_alongBoth, Cond.selects RX0 yX0_alongBoth yX0_alongBoth, Cond.code yX0_alongBoth cX0_alongBoth 4 none, Cond.methodLink RX0 25 yX0_crossWith, Cond.methodLink RX1 102 yX0_isNothing, Cond.methodLink RX1 106 yX1_noteLine, Cond.instanceMethod yX1_noteLine, Cond.selects RX1 yX1_noteLine yX1_noteLine, Cond.code yX1_noteLine cX1_noteLine 5 none, Cond.fieldLink RX1 24 "SpaceWalls$Cut" "lineAbove" "[I", Cond.fieldLink RX1 27 "SpaceWalls$Cut" "lineBelow" "[I", Cond.methodLink RX1 122 yX3_signs]
def wsX5_beside_r5 : List Cond := [Cond.instanceMethod yX3_signs, Cond.selects RX3 yX3_signs yX3_signs, Cond.code yX3_signs cX3_signs 8 (some .int), Cond.fieldLink RX3 9 "SpaceWalls$Planes" "a" "[I", Cond.fieldLink RX3 15 "SpaceWalls$Planes" "b" "[I", Cond.fieldLink RX3 18 "SpaceWalls$Planes" "c" "[I", Cond.fieldLink RX3 21 "SpaceWalls$Planes" "e" "[I", Cond.static yX5_onMask, Cond.code yX5_onMask cX5_onMask 1 (some .int), Cond.static yX5_aboveMask, Cond.code yX5_aboveMask cX5_aboveMask 1 (some .int), Cond.methodLink RX1 109 yX1_noteCorner, Cond.instanceMethod yX1_noteCorner, Cond.selects RX1 yX1_noteCorner yX1_noteCorner, Cond.code yX1_noteCorner cX1_noteCorner 12 none, Cond.fieldLink RX1 37 "SpaceWalls$Cut" "second" "LSpaceWalls$Arrow;", Cond.fieldLink RX1 40 "SpaceWalls$Cut" "third" "LSpaceWalls$Arrow;", Cond.methodLink RX1 132 yX0_climb, Cond.methodLink RX1 139 yX1_reach, Cond.instanceMethod yX1_reach, Cond.selects RX1 yX1_reach yX1_reach, Cond.code yX1_reach cX1_reach 3 none, Cond.methodLink RX1 142 yX3_rowOf, Cond.instanceMethod yX3_rowOf]
def wsX5_beside_r6 : List Cond := [Cond.selects RX3 yX3_rowOf yX3_rowOf, Cond.code yX3_rowOf cX3_rowOf 2 (some .int), Cond.fieldLink RX3 24 "SpaceWalls$Planes" "threes" "[I", Cond.methodLink RX1 145 yX1_isMarked, Cond.instanceMethod yX1_isMarked, Cond.selects RX1 yX1_isMarked yX1_isMarked, Cond.code yX1_isMarked cX1_isMarked 2 (some .boolean), Cond.methodLink RX1 75 yX1_moveFrom, Cond.instanceMethod yX1_moveFrom, Cond.selects RX1 yX1_moveFrom yX1_moveFrom, Cond.code yX1_moveFrom cX1_moveFrom 6 none, Cond.methodLink RX1 79 yX1_sortRows, Cond.instanceMethod yX1_sortRows, Cond.selects RX1 yX1_sortRows yX1_sortRows, Cond.code yX1_sortRows cX1_sortRows 3 none, Cond.fieldLink RX1 18 "SpaceWalls$Cut" "rows" "[I", Cond.fieldLink RX1 21 "SpaceWalls$Cut" "widths" "[I", Cond.static yX5_maskOf, Cond.code yX5_maskOf cX5_maskOf 5 (some .int), Cond.methodLink RX1 82 yX2_shareDown, Cond.instanceMethod yX2_shareDown, Cond.selects RX2 yX2_shareDown yX2_shareDown, Cond.code yX2_shareDown cX2_shareDown 3 none, Cond.methodLink RX5 71 yX3_holds]
def wsX5_beside_r7 : List Cond := [Cond.instanceMethod yX3_holds, Cond.selects RX3 yX3_holds yX3_holds, Cond.code yX3_holds cX3_holds 2 (some .boolean), Cond.methodLink RX5 124 yX1_hasRoom, Cond.instanceMethod yX1_hasRoom, Cond.selects RX1 yX1_hasRoom yX1_hasRoom, Cond.code yX1_hasRoom cX1_hasRoom 2 (some .boolean), Cond.methodLink RX1 163 yX1_hasFace, Cond.instanceMethod yX1_hasFace, Cond.selects RX1 yX1_hasFace yX1_hasFace, Cond.code yX1_hasFace cX1_hasFace 2 (some .boolean), Cond.methodLink RX5 143 yX5_across, Cond.static yX5_across, Cond.code yX5_across cX5_across 3 (some .int), Cond.fieldLink RX5 168 "SpaceWalls" "POWERS" "[I"]
def wsX5_beside : List Cond := .code yX5_beside cX5_beside 5 (some .int) :: ((wsX5_beside_r1 ++ (wsX5_beside_r2 ++ (wsX5_beside_r3 ++ (wsX5_beside_r4 ++ (wsX5_beside_r5 ++ (wsX5_beside_r6 ++ wsX5_beside_r7)))))) ++ wsX50 ++ wsX10 ++ wsX20 ++ wsX30 ++ wsX00)
def wsX5_parting : List Cond := .code yX5_parting cX5_parting 2 (some .int) :: ([.methodLink RX5 121 yX5_maskOf, .static yX5_maskOf, .initialized RX5, .code yX5_maskOf cX5_maskOf 5 (some .int)])
def wsX5_way_r1 : List Cond := [Cond.methodLink RX5 105 yX5_freshCut, Cond.instanceMethod yX5_freshCut, Cond.selects RX5 yX5_freshCut yX5_freshCut, Cond.initialized RX5, Cond.code yX5_freshCut cX5_freshCut 1 (some (.object "SpaceWalls$Cut")), Cond.fieldLink RX5 52 "SpaceWalls" "fresh" "Z", Cond.fieldLink RX5 41 "SpaceWalls" "cut" "LSpaceWalls$Cut;", Cond.methodLink RX5 163 yX1_cutAnew, Cond.instanceMethod yX1_cutAnew, Cond.selects RX1 yX1_cutAnew yX1_cutAnew, Cond.initialized RX1, Cond.code yX1_cutAnew cX1_cutAnew 2 none, Cond.fieldLink RX1 9 "SpaceWalls$Cut" "marks" "[I", Cond.fieldLink RX1 51 "SpaceWalls$Cut" "found" "I", Cond.fieldLink RX1 55 "SpaceWalls$Cut" "lines" "I", Cond.fieldLink RX1 47 "SpaceWalls$Cut" "heaps" "LSpaceWalls$Heaps;", Cond.fieldLink RX1 15 "SpaceWalls$Cut" "reached" "[I", Cond.methodLink RX1 58 yJ7_fill_53178, Cond.static yJ7_fill_53178, Cond.initialized RJ7, Cond.code yJ7_fill_53178 cJ7_fill_53178 4 none, Cond.methodLink RX1 64 yX2_forgetCommon, Cond.instanceMethod yX2_forgetCommon, Cond.selects RX2 yX2_forgetCommon yX2_forgetCommon]
def wsX5_way_r2 : List Cond := [Cond.initialized RX2, Cond.code yX2_forgetCommon cX2_forgetCommon 2 none, Cond.fieldLink RX2 15 "SpaceWalls$Heaps" "common" "[Z", Cond.methodLink RX1 69 yX2_rankAnew, Cond.instanceMethod yX2_rankAnew, Cond.selects RX2 yX2_rankAnew yX2_rankAnew, Cond.code yX2_rankAnew cX2_rankAnew 3 none, Cond.fieldLink RX2 35 "SpaceWalls$Heaps" "planes" "LSpaceWalls$Planes;", Cond.methodLink RX2 45 yX2_rankWith, Cond.instanceMethod yX2_rankWith, Cond.selects RX2 yX2_rankWith yX2_rankWith, Cond.code yX2_rankWith cX2_rankWith 6 none, Cond.fieldLink RX2 9 "SpaceWalls$Heaps" "rank" "[I", Cond.fieldLink RX2 31 "SpaceWalls$Heaps" "key" "LSpaceWalls$Arrow;", Cond.fieldLink RX2 19 "SpaceWalls$Heaps" "keyX" "[I", Cond.fieldLink RX2 22 "SpaceWalls$Heaps" "keyY" "[I", Cond.fieldLink RX2 25 "SpaceWalls$Heaps" "keyZ" "[I", Cond.methodLink RX2 49 yX0_set, Cond.instanceMethod yX0_set, Cond.selects RX0 yX0_set yX0_set, Cond.initialized RX0, Cond.code yX0_set cX0_set 4 none, Cond.fieldLink RX0 29 "SpaceWalls$Arrow" "x" "I", Cond.fieldLink RX0 33 "SpaceWalls$Arrow" "y" "I"]
def wsX5_way_r3 : List Cond := [Cond.fieldLink RX0 36 "SpaceWalls$Arrow" "z" "I", Cond.methodLink RX2 62 yX0_crossWith, Cond.instanceMethod yX0_crossWith, Cond.selects RX0 yX0_crossWith yX0_crossWith, Cond.code yX0_crossWith cX0_crossWith 6 none, Cond.methodLink RX0 19 yX0_set, Cond.methodLink RX2 66 yX0_isNothing, Cond.instanceMethod yX0_isNothing, Cond.selects RX0 yX0_isNothing yX0_isNothing, Cond.code yX0_isNothing cX0_isNothing 1 (some .boolean), Cond.methodLink RX2 70 yX0_climb, Cond.instanceMethod yX0_climb, Cond.selects RX0 yX0_climb yX0_climb, Cond.code yX0_climb cX0_climb 3 (some .int), Cond.methodLink RX1 72 yX1_crossPlanes, Cond.instanceMethod yX1_crossPlanes, Cond.selects RX1 yX1_crossPlanes yX1_crossPlanes, Cond.code yX1_crossPlanes cX1_crossPlanes 5 none, Cond.fieldLink RX1 43 "SpaceWalls$Cut" "planes" "LSpaceWalls$Planes;", Cond.fieldLink RX1 33 "SpaceWalls$Cut" "first" "LSpaceWalls$Arrow;", Cond.methodLink RX1 85 yX2_rankOfAll, Cond.instanceMethod yX2_rankOfAll, Cond.selects RX2 yX2_rankOfAll yX2_rankOfAll, Cond.code yX2_rankOfAll cX2_rankOfAll 1 (some .int)]
def wsX5_way_r4 : List Cond := [Cond.methodLink RX1 94 yX3_indexOf, Cond.instanceMethod yX3_indexOf, Cond.selects RX3 yX3_indexOf yX3_indexOf, Cond.initialized RX3, Cond.code yX3_indexOf cX3_indexOf 2 (some .int), Cond.fieldLink RX3 31 "SpaceWalls$Planes" "size" "I", Cond.methodLink RX3 45 Lib.Math.min.name, Cond.static Lib.Math.min.name, Cond.initialized "java/lang/Math", Cond.code Lib.Math.min.name Lib.Math.min.code 2 (some .int), Cond.methodLink RX1 98 yX0_alongBoth, Cond.instanceMethod yX0_alongBoth, Cond.selects RX0 yX0_alongBoth yX0_alongBoth, Cond.code yX0_alongBoth cX0_alongBoth 4 none, Cond.methodLink RX0 25 yX0_crossWith, Cond.methodLink RX1 102 yX0_isNothing, Cond.methodLink RX1 106 yX1_noteLine, Cond.instanceMethod yX1_noteLine, Cond.selects RX1 yX1_noteLine yX1_noteLine, Cond.code yX1_noteLine cX1_noteLine 5 none, Cond.fieldLink RX1 24 "SpaceWalls$Cut" "lineAbove" "[I", Cond.fieldLink RX1 27 "SpaceWalls$Cut" "lineBelow" "[I", Cond.methodLink RX1 122 yX3_signs, Cond.instanceMethod yX3_signs]
def wsX5_way_r5 : List Cond := [Cond.selects RX3 yX3_signs yX3_signs, Cond.code yX3_signs cX3_signs 8 (some .int), Cond.fieldLink RX3 9 "SpaceWalls$Planes" "a" "[I", Cond.fieldLink RX3 15 "SpaceWalls$Planes" "b" "[I", Cond.fieldLink RX3 18 "SpaceWalls$Planes" "c" "[I", Cond.fieldLink RX3 21 "SpaceWalls$Planes" "e" "[I", Cond.static yX5_onMask, Cond.code yX5_onMask cX5_onMask 1 (some .int), Cond.static yX5_aboveMask, Cond.code yX5_aboveMask cX5_aboveMask 1 (some .int), Cond.methodLink RX1 109 yX1_noteCorner, Cond.instanceMethod yX1_noteCorner, Cond.selects RX1 yX1_noteCorner yX1_noteCorner, Cond.code yX1_noteCorner cX1_noteCorner 12 none, Cond.fieldLink RX1 37 "SpaceWalls$Cut" "second" "LSpaceWalls$Arrow;", Cond.fieldLink RX1 40 "SpaceWalls$Cut" "third" "LSpaceWalls$Arrow;", Cond.methodLink RX1 132 yX0_climb, Cond.methodLink RX1 139 yX1_reach, Cond.instanceMethod yX1_reach, Cond.selects RX1 yX1_reach yX1_reach, Cond.code yX1_reach cX1_reach 3 none, Cond.methodLink RX1 142 yX3_rowOf, Cond.instanceMethod yX3_rowOf, Cond.selects RX3 yX3_rowOf yX3_rowOf]
def wsX5_way_r6 : List Cond := [Cond.code yX3_rowOf cX3_rowOf 2 (some .int), Cond.fieldLink RX3 24 "SpaceWalls$Planes" "threes" "[I", Cond.methodLink RX1 145 yX1_isMarked, Cond.instanceMethod yX1_isMarked, Cond.selects RX1 yX1_isMarked yX1_isMarked, Cond.code yX1_isMarked cX1_isMarked 2 (some .boolean), Cond.methodLink RX1 75 yX1_moveFrom, Cond.instanceMethod yX1_moveFrom, Cond.selects RX1 yX1_moveFrom yX1_moveFrom, Cond.code yX1_moveFrom cX1_moveFrom 6 none, Cond.methodLink RX1 79 yX1_sortRows, Cond.instanceMethod yX1_sortRows, Cond.selects RX1 yX1_sortRows yX1_sortRows, Cond.code yX1_sortRows cX1_sortRows 3 none, Cond.fieldLink RX1 18 "SpaceWalls$Cut" "rows" "[I", Cond.fieldLink RX1 21 "SpaceWalls$Cut" "widths" "[I", Cond.static yX5_maskOf, Cond.code yX5_maskOf cX5_maskOf 5 (some .int), Cond.methodLink RX1 82 yX2_shareDown, Cond.instanceMethod yX2_shareDown, Cond.selects RX2 yX2_shareDown yX2_shareDown, Cond.code yX2_shareDown cX2_shareDown 3 none, Cond.methodLink RX5 124 yX1_hasRoom, Cond.instanceMethod yX1_hasRoom]
def wsX5_way_r7 : List Cond := [Cond.selects RX1 yX1_hasRoom yX1_hasRoom, Cond.code yX1_hasRoom cX1_hasRoom 2 (some .boolean), Cond.methodLink RX1 163 yX1_hasFace, Cond.instanceMethod yX1_hasFace, Cond.selects RX1 yX1_hasFace yX1_hasFace, Cond.code yX1_hasFace cX1_hasFace 2 (some .boolean), Cond.methodLink RX5 146 yX5_parting, Cond.static yX5_parting, Cond.code yX5_parting cX5_parting 2 (some .int), Cond.methodLink RX5 121 yX5_maskOf, Cond.methodLink RX5 149 yJ6_bitCount_0f7a4, Cond.static yJ6_bitCount_0f7a4, Cond.initialized RJ6, Cond.code yJ6_bitCount_0f7a4 cJ6_bitCount_0f7a4 1 (some .int), Cond.constant RJ6 265 (1431655765), Cond.constant RJ6 266 (858993459), Cond.constant RJ6 267 (252645135)]
def wsX5_way : List Cond := .code yX5_way cX5_way 4 (some .int) :: ((wsX5_way_r1 ++ (wsX5_way_r2 ++ (wsX5_way_r3 ++ (wsX5_way_r4 ++ (wsX5_way_r5 ++ (wsX5_way_r6 ++ wsX5_way_r7)))))) ++ wsX50 ++ wsX10 ++ wsX20 ++ wsX30 ++ wsX00)
def wsX5_step_r1 : List Cond := [Cond.fieldLink RX5 23 "SpaceWalls" "planes" "LSpaceWalls$Planes;", Cond.methodLink RX5 105 yX5_freshCut, Cond.instanceMethod yX5_freshCut, Cond.selects RX5 yX5_freshCut yX5_freshCut, Cond.initialized RX5, Cond.code yX5_freshCut cX5_freshCut 1 (some (.object "SpaceWalls$Cut")), Cond.fieldLink RX5 52 "SpaceWalls" "fresh" "Z", Cond.fieldLink RX5 41 "SpaceWalls" "cut" "LSpaceWalls$Cut;", Cond.methodLink RX5 163 yX1_cutAnew, Cond.instanceMethod yX1_cutAnew, Cond.selects RX1 yX1_cutAnew yX1_cutAnew, Cond.initialized RX1, Cond.code yX1_cutAnew cX1_cutAnew 2 none, Cond.fieldLink RX1 9 "SpaceWalls$Cut" "marks" "[I", Cond.fieldLink RX1 51 "SpaceWalls$Cut" "found" "I", Cond.fieldLink RX1 55 "SpaceWalls$Cut" "lines" "I", Cond.fieldLink RX1 47 "SpaceWalls$Cut" "heaps" "LSpaceWalls$Heaps;", Cond.fieldLink RX1 15 "SpaceWalls$Cut" "reached" "[I", Cond.methodLink RX1 58 yJ7_fill_53178, Cond.static yJ7_fill_53178, Cond.initialized RJ7, Cond.code yJ7_fill_53178 cJ7_fill_53178 4 none, Cond.methodLink RX1 64 yX2_forgetCommon, Cond.instanceMethod yX2_forgetCommon]
def wsX5_step_r2 : List Cond := [Cond.selects RX2 yX2_forgetCommon yX2_forgetCommon, Cond.initialized RX2, Cond.code yX2_forgetCommon cX2_forgetCommon 2 none, Cond.fieldLink RX2 15 "SpaceWalls$Heaps" "common" "[Z", Cond.methodLink RX1 69 yX2_rankAnew, Cond.instanceMethod yX2_rankAnew, Cond.selects RX2 yX2_rankAnew yX2_rankAnew, Cond.code yX2_rankAnew cX2_rankAnew 3 none, Cond.fieldLink RX2 35 "SpaceWalls$Heaps" "planes" "LSpaceWalls$Planes;", Cond.methodLink RX2 45 yX2_rankWith, Cond.instanceMethod yX2_rankWith, Cond.selects RX2 yX2_rankWith yX2_rankWith, Cond.code yX2_rankWith cX2_rankWith 6 none, Cond.fieldLink RX2 9 "SpaceWalls$Heaps" "rank" "[I", Cond.fieldLink RX2 31 "SpaceWalls$Heaps" "key" "LSpaceWalls$Arrow;", Cond.fieldLink RX2 19 "SpaceWalls$Heaps" "keyX" "[I", Cond.fieldLink RX2 22 "SpaceWalls$Heaps" "keyY" "[I", Cond.fieldLink RX2 25 "SpaceWalls$Heaps" "keyZ" "[I", Cond.methodLink RX2 49 yX0_set, Cond.instanceMethod yX0_set, Cond.selects RX0 yX0_set yX0_set, Cond.initialized RX0, Cond.code yX0_set cX0_set 4 none, Cond.fieldLink RX0 29 "SpaceWalls$Arrow" "x" "I"]
def wsX5_step_r3 : List Cond := [Cond.fieldLink RX0 33 "SpaceWalls$Arrow" "y" "I", Cond.fieldLink RX0 36 "SpaceWalls$Arrow" "z" "I", Cond.methodLink RX2 62 yX0_crossWith, Cond.instanceMethod yX0_crossWith, Cond.selects RX0 yX0_crossWith yX0_crossWith, Cond.code yX0_crossWith cX0_crossWith 6 none, Cond.methodLink RX0 19 yX0_set, Cond.methodLink RX2 66 yX0_isNothing, Cond.instanceMethod yX0_isNothing, Cond.selects RX0 yX0_isNothing yX0_isNothing, Cond.code yX0_isNothing cX0_isNothing 1 (some .boolean), Cond.methodLink RX2 70 yX0_climb, Cond.instanceMethod yX0_climb, Cond.selects RX0 yX0_climb yX0_climb, Cond.code yX0_climb cX0_climb 3 (some .int), Cond.methodLink RX1 72 yX1_crossPlanes, Cond.instanceMethod yX1_crossPlanes, Cond.selects RX1 yX1_crossPlanes yX1_crossPlanes, Cond.code yX1_crossPlanes cX1_crossPlanes 5 none, Cond.fieldLink RX1 43 "SpaceWalls$Cut" "planes" "LSpaceWalls$Planes;", Cond.fieldLink RX1 33 "SpaceWalls$Cut" "first" "LSpaceWalls$Arrow;", Cond.methodLink RX1 85 yX2_rankOfAll, Cond.instanceMethod yX2_rankOfAll, Cond.selects RX2 yX2_rankOfAll yX2_rankOfAll]
def wsX5_step_r4 : List Cond := [Cond.code yX2_rankOfAll cX2_rankOfAll 1 (some .int), Cond.methodLink RX1 94 yX3_indexOf, Cond.instanceMethod yX3_indexOf, Cond.selects RX3 yX3_indexOf yX3_indexOf, Cond.initialized RX3, Cond.code yX3_indexOf cX3_indexOf 2 (some .int), Cond.fieldLink RX3 31 "SpaceWalls$Planes" "size" "I", Cond.methodLink RX3 45 Lib.Math.min.name, Cond.static Lib.Math.min.name, Cond.initialized "java/lang/Math", Cond.code Lib.Math.min.name Lib.Math.min.code 2 (some .int), Cond.methodLink RX1 98 yX0_alongBoth, Cond.instanceMethod yX0_alongBoth, Cond.selects RX0 yX0_alongBoth yX0_alongBoth, Cond.code yX0_alongBoth cX0_alongBoth 4 none, Cond.methodLink RX0 25 yX0_crossWith, Cond.methodLink RX1 102 yX0_isNothing, Cond.methodLink RX1 106 yX1_noteLine, Cond.instanceMethod yX1_noteLine, Cond.selects RX1 yX1_noteLine yX1_noteLine, Cond.code yX1_noteLine cX1_noteLine 5 none, Cond.fieldLink RX1 24 "SpaceWalls$Cut" "lineAbove" "[I", Cond.fieldLink RX1 27 "SpaceWalls$Cut" "lineBelow" "[I", Cond.methodLink RX1 122 yX3_signs]
def wsX5_step_r5 : List Cond := [Cond.instanceMethod yX3_signs, Cond.selects RX3 yX3_signs yX3_signs, Cond.code yX3_signs cX3_signs 8 (some .int), Cond.fieldLink RX3 9 "SpaceWalls$Planes" "a" "[I", Cond.fieldLink RX3 15 "SpaceWalls$Planes" "b" "[I", Cond.fieldLink RX3 18 "SpaceWalls$Planes" "c" "[I", Cond.fieldLink RX3 21 "SpaceWalls$Planes" "e" "[I", Cond.static yX5_onMask, Cond.code yX5_onMask cX5_onMask 1 (some .int), Cond.static yX5_aboveMask, Cond.code yX5_aboveMask cX5_aboveMask 1 (some .int), Cond.methodLink RX1 109 yX1_noteCorner, Cond.instanceMethod yX1_noteCorner, Cond.selects RX1 yX1_noteCorner yX1_noteCorner, Cond.code yX1_noteCorner cX1_noteCorner 12 none, Cond.fieldLink RX1 37 "SpaceWalls$Cut" "second" "LSpaceWalls$Arrow;", Cond.fieldLink RX1 40 "SpaceWalls$Cut" "third" "LSpaceWalls$Arrow;", Cond.methodLink RX1 132 yX0_climb, Cond.methodLink RX1 139 yX1_reach, Cond.instanceMethod yX1_reach, Cond.selects RX1 yX1_reach yX1_reach, Cond.code yX1_reach cX1_reach 3 none, Cond.methodLink RX1 142 yX3_rowOf, Cond.instanceMethod yX3_rowOf]
def wsX5_step_r6 : List Cond := [Cond.selects RX3 yX3_rowOf yX3_rowOf, Cond.code yX3_rowOf cX3_rowOf 2 (some .int), Cond.fieldLink RX3 24 "SpaceWalls$Planes" "threes" "[I", Cond.methodLink RX1 145 yX1_isMarked, Cond.instanceMethod yX1_isMarked, Cond.selects RX1 yX1_isMarked yX1_isMarked, Cond.code yX1_isMarked cX1_isMarked 2 (some .boolean), Cond.methodLink RX1 75 yX1_moveFrom, Cond.instanceMethod yX1_moveFrom, Cond.selects RX1 yX1_moveFrom yX1_moveFrom, Cond.code yX1_moveFrom cX1_moveFrom 6 none, Cond.methodLink RX1 79 yX1_sortRows, Cond.instanceMethod yX1_sortRows, Cond.selects RX1 yX1_sortRows yX1_sortRows, Cond.code yX1_sortRows cX1_sortRows 3 none, Cond.fieldLink RX1 18 "SpaceWalls$Cut" "rows" "[I", Cond.fieldLink RX1 21 "SpaceWalls$Cut" "widths" "[I", Cond.static yX5_maskOf, Cond.code yX5_maskOf cX5_maskOf 5 (some .int), Cond.methodLink RX1 82 yX2_shareDown, Cond.instanceMethod yX2_shareDown, Cond.selects RX2 yX2_shareDown yX2_shareDown, Cond.code yX2_shareDown cX2_shareDown 3 none, Cond.methodLink RX5 124 yX1_hasRoom]
def wsX5_step_r7 : List Cond := [Cond.instanceMethod yX1_hasRoom, Cond.selects RX1 yX1_hasRoom yX1_hasRoom, Cond.code yX1_hasRoom cX1_hasRoom 2 (some .boolean), Cond.methodLink RX1 163 yX1_hasFace, Cond.instanceMethod yX1_hasFace, Cond.selects RX1 yX1_hasFace yX1_hasFace, Cond.code yX1_hasFace cX1_hasFace 2 (some .boolean), Cond.methodLink RX5 146 yX5_parting, Cond.static yX5_parting, Cond.code yX5_parting cX5_parting 2 (some .int), Cond.methodLink RX5 121 yX5_maskOf, Cond.methodLink RX5 140 yX1_wallsOf, Cond.instanceMethod yX1_wallsOf, Cond.selects RX1 yX1_wallsOf yX1_wallsOf, Cond.code yX1_wallsOf cX1_wallsOf 4 (some .int), Cond.static yX5_across, Cond.code yX5_across cX5_across 3 (some .int), Cond.fieldLink RX5 168 "SpaceWalls" "POWERS" "[I", Cond.methodLink RX1 169 yX1_hasRoom]
def wsX5_step : List Cond := .code yX5_step cX5_step 6 (some .int) :: ((wsX5_step_r1 ++ (wsX5_step_r2 ++ (wsX5_step_r3 ++ (wsX5_step_r4 ++ (wsX5_step_r5 ++ (wsX5_step_r6 ++ wsX5_step_r7)))))) ++ wsX50 ++ wsX30 ++ wsX10 ++ wsX20 ++ wsX00)
def wsX5_far : List Cond := .code yX5_far cX5_far 1 (some .int) :: ([.fieldLink RX5 23 "SpaceWalls" "planes" "LSpaceWalls$Planes;"] ++ wsX50 ++ wsX30)
def wsX5_isPrime : List Cond := .code yX5_isPrime cX5_isPrime 2 (some .boolean) :: ([])
def wsX5_left_r1 : List Cond := [Cond.fieldLink RX5 48 "SpaceWalls" "counter" "LSpaceWalls$PrimeCounter;", Cond.methodLink RX5 154 yX5_isPrime, Cond.static yX5_isPrime, Cond.initialized RX5, Cond.code yX5_isPrime cX5_isPrime 2 (some .boolean), Cond.methodLink RX5 157 yX4_countMissed, Cond.instanceMethod yX4_countMissed, Cond.selects RX4 yX4_countMissed yX4_countMissed, Cond.initialized RX4, Cond.code yX4_countMissed cX4_countMissed 7 (some .int), Cond.fieldLink RX4 15 "SpaceWalls$PrimeCounter" "planes" "LSpaceWalls$Planes;", Cond.fieldLink RX4 9 "SpaceWalls$PrimeCounter" "turned" "[I", Cond.methodLink RX4 28 yJ9_floorMod_7cf53, Cond.static yJ9_floorMod_7cf53, Cond.initialized RJ9, Cond.code yJ9_floorMod_7cf53 cJ9_floorMod_7cf53 3 (some .int), Cond.methodLink RX4 34 yX4_inverse, Cond.static yX4_inverse, Cond.code yX4_inverse cX4_inverse 3 (some .int), Cond.methodLink RX4 40 yX4_hits, Cond.instanceMethod yX4_hits, Cond.selects RX4 yX4_hits yX4_hits, Cond.code yX4_hits cX4_hits 7 (some .int), Cond.methodLink RX4 44 yJ6_bitCount_0f7a4]
def wsX5_left_r2 : List Cond := [Cond.static yJ6_bitCount_0f7a4, Cond.initialized RJ6, Cond.code yJ6_bitCount_0f7a4 cJ6_bitCount_0f7a4 1 (some .int), Cond.constant RJ6 265 (1431655765), Cond.constant RJ6 266 (858993459), Cond.constant RJ6 267 (252645135)]
def wsX5_left : List Cond := .code yX5_left cX5_left 2 (some .int) :: ((wsX5_left_r1 ++ wsX5_left_r2) ++ wsX50 ++ wsX40 ++ wsX30)
def wsX5_count_r1 : List Cond := [Cond.fieldLink RX5 23 "SpaceWalls" "planes" "LSpaceWalls$Planes;", Cond.fieldLink RX5 32 "SpaceWalls" "heaps" "LSpaceWalls$Heaps;", Cond.methodLink RX5 105 yX5_freshCut, Cond.instanceMethod yX5_freshCut, Cond.selects RX5 yX5_freshCut yX5_freshCut, Cond.initialized RX5, Cond.code yX5_freshCut cX5_freshCut 1 (some (.object "SpaceWalls$Cut")), Cond.fieldLink RX5 52 "SpaceWalls" "fresh" "Z", Cond.fieldLink RX5 41 "SpaceWalls" "cut" "LSpaceWalls$Cut;", Cond.methodLink RX5 163 yX1_cutAnew, Cond.instanceMethod yX1_cutAnew, Cond.selects RX1 yX1_cutAnew yX1_cutAnew, Cond.initialized RX1, Cond.code yX1_cutAnew cX1_cutAnew 2 none, Cond.fieldLink RX1 9 "SpaceWalls$Cut" "marks" "[I", Cond.fieldLink RX1 51 "SpaceWalls$Cut" "found" "I", Cond.fieldLink RX1 55 "SpaceWalls$Cut" "lines" "I", Cond.fieldLink RX1 47 "SpaceWalls$Cut" "heaps" "LSpaceWalls$Heaps;", Cond.fieldLink RX1 15 "SpaceWalls$Cut" "reached" "[I", Cond.methodLink RX1 58 yJ7_fill_53178, Cond.static yJ7_fill_53178, Cond.initialized RJ7, Cond.code yJ7_fill_53178 cJ7_fill_53178 4 none, Cond.methodLink RX1 64 yX2_forgetCommon]
def wsX5_count_r2 : List Cond := [Cond.instanceMethod yX2_forgetCommon, Cond.selects RX2 yX2_forgetCommon yX2_forgetCommon, Cond.initialized RX2, Cond.code yX2_forgetCommon cX2_forgetCommon 2 none, Cond.fieldLink RX2 15 "SpaceWalls$Heaps" "common" "[Z", Cond.methodLink RX1 69 yX2_rankAnew, Cond.instanceMethod yX2_rankAnew, Cond.selects RX2 yX2_rankAnew yX2_rankAnew, Cond.code yX2_rankAnew cX2_rankAnew 3 none, Cond.fieldLink RX2 35 "SpaceWalls$Heaps" "planes" "LSpaceWalls$Planes;", Cond.methodLink RX2 45 yX2_rankWith, Cond.instanceMethod yX2_rankWith, Cond.selects RX2 yX2_rankWith yX2_rankWith, Cond.code yX2_rankWith cX2_rankWith 6 none, Cond.fieldLink RX2 9 "SpaceWalls$Heaps" "rank" "[I", Cond.fieldLink RX2 31 "SpaceWalls$Heaps" "key" "LSpaceWalls$Arrow;", Cond.fieldLink RX2 19 "SpaceWalls$Heaps" "keyX" "[I", Cond.fieldLink RX2 22 "SpaceWalls$Heaps" "keyY" "[I", Cond.fieldLink RX2 25 "SpaceWalls$Heaps" "keyZ" "[I", Cond.methodLink RX2 49 yX0_set, Cond.instanceMethod yX0_set, Cond.selects RX0 yX0_set yX0_set, Cond.initialized RX0, Cond.code yX0_set cX0_set 4 none]
def wsX5_count_r3 : List Cond := [Cond.fieldLink RX0 29 "SpaceWalls$Arrow" "x" "I", Cond.fieldLink RX0 33 "SpaceWalls$Arrow" "y" "I", Cond.fieldLink RX0 36 "SpaceWalls$Arrow" "z" "I", Cond.methodLink RX2 62 yX0_crossWith, Cond.instanceMethod yX0_crossWith, Cond.selects RX0 yX0_crossWith yX0_crossWith, Cond.code yX0_crossWith cX0_crossWith 6 none, Cond.methodLink RX0 19 yX0_set, Cond.methodLink RX2 66 yX0_isNothing, Cond.instanceMethod yX0_isNothing, Cond.selects RX0 yX0_isNothing yX0_isNothing, Cond.code yX0_isNothing cX0_isNothing 1 (some .boolean), Cond.methodLink RX2 70 yX0_climb, Cond.instanceMethod yX0_climb, Cond.selects RX0 yX0_climb yX0_climb, Cond.code yX0_climb cX0_climb 3 (some .int), Cond.methodLink RX1 72 yX1_crossPlanes, Cond.instanceMethod yX1_crossPlanes, Cond.selects RX1 yX1_crossPlanes yX1_crossPlanes, Cond.code yX1_crossPlanes cX1_crossPlanes 5 none, Cond.fieldLink RX1 43 "SpaceWalls$Cut" "planes" "LSpaceWalls$Planes;", Cond.fieldLink RX1 33 "SpaceWalls$Cut" "first" "LSpaceWalls$Arrow;", Cond.methodLink RX1 85 yX2_rankOfAll, Cond.instanceMethod yX2_rankOfAll]
def wsX5_count_r4 : List Cond := [Cond.selects RX2 yX2_rankOfAll yX2_rankOfAll, Cond.code yX2_rankOfAll cX2_rankOfAll 1 (some .int), Cond.methodLink RX1 94 yX3_indexOf, Cond.instanceMethod yX3_indexOf, Cond.selects RX3 yX3_indexOf yX3_indexOf, Cond.initialized RX3, Cond.code yX3_indexOf cX3_indexOf 2 (some .int), Cond.fieldLink RX3 31 "SpaceWalls$Planes" "size" "I", Cond.methodLink RX3 45 Lib.Math.min.name, Cond.static Lib.Math.min.name, Cond.initialized "java/lang/Math", Cond.code Lib.Math.min.name Lib.Math.min.code 2 (some .int), Cond.methodLink RX1 98 yX0_alongBoth, Cond.instanceMethod yX0_alongBoth, Cond.selects RX0 yX0_alongBoth yX0_alongBoth, Cond.code yX0_alongBoth cX0_alongBoth 4 none, Cond.methodLink RX0 25 yX0_crossWith, Cond.methodLink RX1 102 yX0_isNothing, Cond.methodLink RX1 106 yX1_noteLine, Cond.instanceMethod yX1_noteLine, Cond.selects RX1 yX1_noteLine yX1_noteLine, Cond.code yX1_noteLine cX1_noteLine 5 none, Cond.fieldLink RX1 24 "SpaceWalls$Cut" "lineAbove" "[I", Cond.fieldLink RX1 27 "SpaceWalls$Cut" "lineBelow" "[I"]
def wsX5_count_r5 : List Cond := [Cond.methodLink RX1 122 yX3_signs, Cond.instanceMethod yX3_signs, Cond.selects RX3 yX3_signs yX3_signs, Cond.code yX3_signs cX3_signs 8 (some .int), Cond.fieldLink RX3 9 "SpaceWalls$Planes" "a" "[I", Cond.fieldLink RX3 15 "SpaceWalls$Planes" "b" "[I", Cond.fieldLink RX3 18 "SpaceWalls$Planes" "c" "[I", Cond.fieldLink RX3 21 "SpaceWalls$Planes" "e" "[I", Cond.static yX5_onMask, Cond.code yX5_onMask cX5_onMask 1 (some .int), Cond.static yX5_aboveMask, Cond.code yX5_aboveMask cX5_aboveMask 1 (some .int), Cond.methodLink RX1 109 yX1_noteCorner, Cond.instanceMethod yX1_noteCorner, Cond.selects RX1 yX1_noteCorner yX1_noteCorner, Cond.code yX1_noteCorner cX1_noteCorner 12 none, Cond.fieldLink RX1 37 "SpaceWalls$Cut" "second" "LSpaceWalls$Arrow;", Cond.fieldLink RX1 40 "SpaceWalls$Cut" "third" "LSpaceWalls$Arrow;", Cond.methodLink RX1 132 yX0_climb, Cond.methodLink RX1 139 yX1_reach, Cond.instanceMethod yX1_reach, Cond.selects RX1 yX1_reach yX1_reach, Cond.code yX1_reach cX1_reach 3 none, Cond.methodLink RX1 142 yX3_rowOf]
def wsX5_count_r6 : List Cond := [Cond.instanceMethod yX3_rowOf, Cond.selects RX3 yX3_rowOf yX3_rowOf, Cond.code yX3_rowOf cX3_rowOf 2 (some .int), Cond.fieldLink RX3 24 "SpaceWalls$Planes" "threes" "[I", Cond.methodLink RX1 145 yX1_isMarked, Cond.instanceMethod yX1_isMarked, Cond.selects RX1 yX1_isMarked yX1_isMarked, Cond.code yX1_isMarked cX1_isMarked 2 (some .boolean), Cond.methodLink RX1 75 yX1_moveFrom, Cond.instanceMethod yX1_moveFrom, Cond.selects RX1 yX1_moveFrom yX1_moveFrom, Cond.code yX1_moveFrom cX1_moveFrom 6 none, Cond.methodLink RX1 79 yX1_sortRows, Cond.instanceMethod yX1_sortRows, Cond.selects RX1 yX1_sortRows yX1_sortRows, Cond.code yX1_sortRows cX1_sortRows 3 none, Cond.fieldLink RX1 18 "SpaceWalls$Cut" "rows" "[I", Cond.fieldLink RX1 21 "SpaceWalls$Cut" "widths" "[I", Cond.static yX5_maskOf, Cond.code yX5_maskOf cX5_maskOf 5 (some .int), Cond.methodLink RX1 82 yX2_shareDown, Cond.instanceMethod yX2_shareDown, Cond.selects RX2 yX2_shareDown yX2_shareDown, Cond.code yX2_shareDown cX2_shareDown 3 none]
def wsX5_count_r7 : List Cond := [Cond.methodLink RX5 109 yX1_countOfWidth, Cond.instanceMethod yX1_countOfWidth, Cond.selects RX1 yX1_countOfWidth yX1_countOfWidth, Cond.code yX1_countOfWidth cX1_countOfWidth 4 (some .int), Cond.methodLink RX5 127 yX2_rankOfAll]
def wsX5_count : List Cond := .code yX5_count cX5_count 2 (some .int) :: ((wsX5_count_r1 ++ (wsX5_count_r2 ++ (wsX5_count_r3 ++ (wsX5_count_r4 ++ (wsX5_count_r5 ++ (wsX5_count_r6 ++ wsX5_count_r7)))))) ++ wsX50 ++ wsX30 ++ wsX10 ++ wsX20 ++ wsX00)
def wsX6_init : List Cond := .code yX6_init cX6_init 2 none :: ([.methodLink RX6 1 objectInit, .instanceMethod objectInit, .code objectInit ⟨#[0xb1]⟩ 1 none, .arrayClass .int, .fieldLink RX6 9 "SpaceWallsModel" "walls" "[I", .arrayClass .boolean, .fieldLink RX6 13 "SpaceWallsModel" "isFace" "[Z", .fieldLink RX6 17 "SpaceWallsModel" "isOld" "Z", .arrayClass .long, .fieldLink RX6 21 "SpaceWallsModel" "sums" "[J", .fieldLink RX6 25 "SpaceWallsModel" "isEven" "[Z", .fieldLink RX6 28 "SpaceWallsModel" "next" "[J", .fieldLink RX6 31 "SpaceWallsModel" "nextEven" "[Z", .fieldLink RX6 34 "SpaceWallsModel" "table" "[J", .fieldLink RX6 37 "SpaceWallsModel" "wide" "I"] ++ wsX60)
def wsX6_in : List Cond := .code yX6_in cX6_in 3 (some .boolean) :: ([])
def wsX6_at : List Cond := .code yX6_at cX6_at 3 (some .int) :: ([.fieldLink RX6 9 "SpaceWallsModel" "walls" "[I"] ++ wsX60)
def wsX6_isSame : List Cond := .code yX6_isSame cX6_isSame 9 (some .boolean) :: ([.arrayClass .int, .methodLink RX6 41 yX6_at, .instanceMethod yX6_at, .selects RX6 yX6_at yX6_at, .initialized RX6, .code yX6_at cX6_at 3 (some .int), .fieldLink RX6 9 "SpaceWallsModel" "walls" "[I"] ++ wsX60)
def wsX6_wall : List Cond := .code yX6_wall cX6_wall 6 (some .int) :: ([.fieldLink RX6 37 "SpaceWallsModel" "wide" "I", .fieldLink RX6 49 "SpaceWallsModel" "many" "I", .fieldLink RX6 9 "SpaceWallsModel" "walls" "[I", .fieldLink RX6 17 "SpaceWallsModel" "isOld" "Z", .methodLink RX6 45 yX6_in, .static yX6_in, .initialized RX6, .code yX6_in cX6_in 3 (some .boolean), .methodLink RX6 52 yX6_isSame, .instanceMethod yX6_isSame, .selects RX6 yX6_isSame yX6_isSame, .code yX6_isSame cX6_isSame 9 (some .boolean), .arrayClass .int, .methodLink RX6 41 yX6_at, .instanceMethod yX6_at, .selects RX6 yX6_at yX6_at, .code yX6_at cX6_at 3 (some .int)] ++ wsX60)
def wsX6_take : List Cond := .code yX6_take cX6_take 3 (some .boolean) :: ([.fieldLink RX6 49 "SpaceWallsModel" "many" "I", .fieldLink RX6 9 "SpaceWallsModel" "walls" "[I", .fieldLink RX6 17 "SpaceWallsModel" "isOld" "Z", .methodLink RX6 45 yX6_in, .static yX6_in, .initialized RX6, .code yX6_in cX6_in 3 (some .boolean)] ++ wsX60)
def wsX6_told : List Cond := .code yX6_told cX6_told 3 (some .int) :: ([.fieldLink RX6 49 "SpaceWallsModel" "many" "I", .methodLink RX6 45 yX6_in, .static yX6_in, .initialized RX6, .code yX6_in cX6_in 3 (some .boolean), .methodLink RX6 41 yX6_at, .instanceMethod yX6_at, .selects RX6 yX6_at yX6_at, .code yX6_at cX6_at 3 (some .int), .fieldLink RX6 9 "SpaceWallsModel" "walls" "[I"] ++ wsX60)
def wsX6_power : List Cond := .code yX6_power cX6_power 3 (some .int) :: ([])
def wsX6_sign : List Cond := .code yX6_sign cX6_sign 2 (some .int) :: ([.methodLink RX6 56 yX6_power, .static yX6_power, .initialized RX6, .code yX6_power cX6_power 3 (some .int)])
def wsX6_row : List Cond := .code yX6_row cX6_row 8 (some .int) :: ([.arrayClass .int, .fieldLink RX6 37 "SpaceWallsModel" "wide" "I", .constant RX6 60 (-1000000), .constant RX6 61 (1000000), .fieldLink RX6 49 "SpaceWallsModel" "many" "I", .methodLink RX6 45 yX6_in, .static yX6_in, .initialized RX6, .code yX6_in cX6_in 3 (some .boolean), .methodLink RX6 41 yX6_at, .instanceMethod yX6_at, .selects RX6 yX6_at yX6_at, .code yX6_at cX6_at 3 (some .int), .fieldLink RX6 9 "SpaceWallsModel" "walls" "[I", .methodLink RX6 56 yX6_power, .static yX6_power, .code yX6_power cX6_power 3 (some .int)] ++ wsX60)
def wsX6_begins : List Cond := .code yX6_begins cX6_begins 1 none :: ([.fieldLink RX6 62 "SpaceWallsModel" "sumMany" "I"] ++ wsX60)
def wsX6_adds : List Cond := .code yX6_adds cX6_adds 4 none :: ([.fieldLink RX6 21 "SpaceWallsModel" "sums" "[J", .fieldLink RX6 62 "SpaceWallsModel" "sumMany" "I", .fieldLink RX6 25 "SpaceWallsModel" "isEven" "[Z", .methodLink RX6 41 yX6_at, .instanceMethod yX6_at, .selects RX6 yX6_at yX6_at, .initialized RX6, .code yX6_at cX6_at 3 (some .int), .fieldLink RX6 9 "SpaceWallsModel" "walls" "[I"] ++ wsX60)
def wsX6_puts : List Cond := .code yX6_puts cX6_puts 9 none :: ([.fieldLink RX6 28 "SpaceWallsModel" "next" "[J", .fieldLink RX6 65 "SpaceWallsModel" "nextMany" "I", .fieldLink RX6 21 "SpaceWallsModel" "sums" "[J", .fieldLink RX6 31 "SpaceWallsModel" "nextEven" "[Z"] ++ wsX60)
def wsX6_size : List Cond := .code yX6_size cX6_size 2 (some .long) :: ([])
def wsX6_takesOut : List Cond := .code yX6_takesOut cX6_takesOut 8 none :: ([.fieldLink RX6 62 "SpaceWallsModel" "sumMany" "I", .fieldLink RX6 25 "SpaceWallsModel" "isEven" "[Z", .fieldLink RX6 21 "SpaceWallsModel" "sums" "[J", .fieldLink RX6 65 "SpaceWallsModel" "nextMany" "I", .fieldLink RX6 28 "SpaceWallsModel" "next" "[J", .fieldLink RX6 31 "SpaceWallsModel" "nextEven" "[Z", .methodLink RX6 68 yX6_puts, .instanceMethod yX6_puts, .selects RX6 yX6_puts yX6_puts, .initialized RX6, .code yX6_puts cX6_puts 9 none, .methodLink RX6 72 yX6_size, .static yX6_size, .code yX6_size cX6_size 2 (some .long)] ++ wsX60)
def wsX6_isThere_r1 : List Cond := [Cond.fieldLink RX6 37 "SpaceWallsModel" "wide" "I", Cond.fieldLink RX6 62 "SpaceWallsModel" "sumMany" "I", Cond.fieldLink RX6 21 "SpaceWallsModel" "sums" "[J", Cond.fieldLink RX6 25 "SpaceWallsModel" "isEven" "[Z", Cond.methodLink RX6 76 yX6_begins, Cond.instanceMethod yX6_begins, Cond.selects RX6 yX6_begins yX6_begins, Cond.initialized RX6, Cond.code yX6_begins cX6_begins 1 none, Cond.methodLink RX6 79 yX6_sign, Cond.static yX6_sign, Cond.code yX6_sign cX6_sign 2 (some .int), Cond.methodLink RX6 56 yX6_power, Cond.static yX6_power, Cond.code yX6_power cX6_power 3 (some .int), Cond.methodLink RX6 82 yX6_adds, Cond.instanceMethod yX6_adds, Cond.selects RX6 yX6_adds yX6_adds, Cond.code yX6_adds cX6_adds 4 none, Cond.methodLink RX6 41 yX6_at, Cond.instanceMethod yX6_at, Cond.selects RX6 yX6_at yX6_at, Cond.code yX6_at cX6_at 3 (some .int), Cond.fieldLink RX6 9 "SpaceWallsModel" "walls" "[I"]
def wsX6_isThere_r2 : List Cond := [Cond.methodLink RX6 86 yX6_takesOut, Cond.instanceMethod yX6_takesOut, Cond.selects RX6 yX6_takesOut yX6_takesOut, Cond.code yX6_takesOut cX6_takesOut 8 none, Cond.fieldLink RX6 65 "SpaceWallsModel" "nextMany" "I", Cond.fieldLink RX6 28 "SpaceWallsModel" "next" "[J", Cond.fieldLink RX6 31 "SpaceWallsModel" "nextEven" "[Z", Cond.methodLink RX6 68 yX6_puts, Cond.instanceMethod yX6_puts, Cond.selects RX6 yX6_puts yX6_puts, Cond.code yX6_puts cX6_puts 9 none, Cond.methodLink RX6 72 yX6_size, Cond.static yX6_size, Cond.code yX6_size cX6_size 2 (some .long)]
def wsX6_isThere : List Cond := .code yX6_isThere cX6_isThere 6 (some .boolean) :: ((wsX6_isThere_r1 ++ wsX6_isThere_r2) ++ wsX60)
def wsX6_works_r1 : List Cond := [Cond.fieldLink RX6 17 "SpaceWallsModel" "isOld" "Z", Cond.fieldLink RX6 13 "SpaceWallsModel" "isFace" "[Z", Cond.fieldLink RX6 49 "SpaceWallsModel" "many" "I", Cond.methodLink RX6 56 yX6_power, Cond.static yX6_power, Cond.initialized RX6, Cond.code yX6_power cX6_power 3 (some .int), Cond.methodLink RX6 90 yX6_isThere, Cond.instanceMethod yX6_isThere, Cond.selects RX6 yX6_isThere yX6_isThere, Cond.code yX6_isThere cX6_isThere 6 (some .boolean), Cond.fieldLink RX6 37 "SpaceWallsModel" "wide" "I", Cond.fieldLink RX6 62 "SpaceWallsModel" "sumMany" "I", Cond.fieldLink RX6 21 "SpaceWallsModel" "sums" "[J", Cond.fieldLink RX6 25 "SpaceWallsModel" "isEven" "[Z", Cond.methodLink RX6 76 yX6_begins, Cond.instanceMethod yX6_begins, Cond.selects RX6 yX6_begins yX6_begins, Cond.code yX6_begins cX6_begins 1 none, Cond.methodLink RX6 79 yX6_sign, Cond.static yX6_sign, Cond.code yX6_sign cX6_sign 2 (some .int), Cond.methodLink RX6 82 yX6_adds, Cond.instanceMethod yX6_adds]
def wsX6_works_r2 : List Cond := [Cond.selects RX6 yX6_adds yX6_adds, Cond.code yX6_adds cX6_adds 4 none, Cond.methodLink RX6 41 yX6_at, Cond.instanceMethod yX6_at, Cond.selects RX6 yX6_at yX6_at, Cond.code yX6_at cX6_at 3 (some .int), Cond.fieldLink RX6 9 "SpaceWallsModel" "walls" "[I", Cond.methodLink RX6 86 yX6_takesOut, Cond.instanceMethod yX6_takesOut, Cond.selects RX6 yX6_takesOut yX6_takesOut, Cond.code yX6_takesOut cX6_takesOut 8 none, Cond.fieldLink RX6 65 "SpaceWallsModel" "nextMany" "I", Cond.fieldLink RX6 28 "SpaceWallsModel" "next" "[J", Cond.fieldLink RX6 31 "SpaceWallsModel" "nextEven" "[Z", Cond.methodLink RX6 68 yX6_puts, Cond.instanceMethod yX6_puts, Cond.selects RX6 yX6_puts yX6_puts, Cond.code yX6_puts cX6_puts 9 none, Cond.methodLink RX6 72 yX6_size, Cond.static yX6_size, Cond.code yX6_size cX6_size 2 (some .long)]
def wsX6_works : List Cond := .code yX6_works cX6_works 5 none :: ((wsX6_works_r1 ++ wsX6_works_r2) ++ wsX60)
def wsX6_isFace_r1 : List Cond := [Cond.fieldLink RX6 13 "SpaceWallsModel" "isFace" "[Z", Cond.methodLink RX6 94 yX6_works, Cond.instanceMethod yX6_works, Cond.selects RX6 yX6_works yX6_works, Cond.initialized RX6, Cond.code yX6_works cX6_works 5 none, Cond.fieldLink RX6 17 "SpaceWallsModel" "isOld" "Z", Cond.fieldLink RX6 49 "SpaceWallsModel" "many" "I", Cond.methodLink RX6 56 yX6_power, Cond.static yX6_power, Cond.code yX6_power cX6_power 3 (some .int), Cond.methodLink RX6 90 yX6_isThere, Cond.instanceMethod yX6_isThere, Cond.selects RX6 yX6_isThere yX6_isThere, Cond.code yX6_isThere cX6_isThere 6 (some .boolean), Cond.fieldLink RX6 37 "SpaceWallsModel" "wide" "I", Cond.fieldLink RX6 62 "SpaceWallsModel" "sumMany" "I", Cond.fieldLink RX6 21 "SpaceWallsModel" "sums" "[J", Cond.fieldLink RX6 25 "SpaceWallsModel" "isEven" "[Z", Cond.methodLink RX6 76 yX6_begins, Cond.instanceMethod yX6_begins, Cond.selects RX6 yX6_begins yX6_begins, Cond.code yX6_begins cX6_begins 1 none, Cond.methodLink RX6 79 yX6_sign]
def wsX6_isFace_r2 : List Cond := [Cond.static yX6_sign, Cond.code yX6_sign cX6_sign 2 (some .int), Cond.methodLink RX6 82 yX6_adds, Cond.instanceMethod yX6_adds, Cond.selects RX6 yX6_adds yX6_adds, Cond.code yX6_adds cX6_adds 4 none, Cond.methodLink RX6 41 yX6_at, Cond.instanceMethod yX6_at, Cond.selects RX6 yX6_at yX6_at, Cond.code yX6_at cX6_at 3 (some .int), Cond.fieldLink RX6 9 "SpaceWallsModel" "walls" "[I", Cond.methodLink RX6 86 yX6_takesOut, Cond.instanceMethod yX6_takesOut, Cond.selects RX6 yX6_takesOut yX6_takesOut, Cond.code yX6_takesOut cX6_takesOut 8 none, Cond.fieldLink RX6 65 "SpaceWallsModel" "nextMany" "I", Cond.fieldLink RX6 28 "SpaceWallsModel" "next" "[J", Cond.fieldLink RX6 31 "SpaceWallsModel" "nextEven" "[Z", Cond.methodLink RX6 68 yX6_puts, Cond.instanceMethod yX6_puts, Cond.selects RX6 yX6_puts yX6_puts, Cond.code yX6_puts cX6_puts 9 none, Cond.methodLink RX6 72 yX6_size, Cond.static yX6_size]
def wsX6_isFace_r3 : List Cond := [Cond.code yX6_size cX6_size 2 (some .long), Cond.methodLink RX6 45 yX6_in, Cond.static yX6_in, Cond.code yX6_in cX6_in 3 (some .boolean)]
def wsX6_isFace : List Cond := .code yX6_isFace cX6_isFace 2 (some .boolean) :: ((wsX6_isFace_r1 ++ (wsX6_isFace_r2 ++ wsX6_isFace_r3)) ++ wsX60)
def wsX6_rank : List Cond := .code yX6_rank cX6_rank 13 (some .int) :: ([.fieldLink RX6 49 "SpaceWallsModel" "many" "I", .fieldLink RX6 34 "SpaceWallsModel" "table" "[J", .methodLink RX6 41 yX6_at, .instanceMethod yX6_at, .selects RX6 yX6_at yX6_at, .initialized RX6, .code yX6_at cX6_at 3 (some .int), .fieldLink RX6 9 "SpaceWallsModel" "walls" "[I"] ++ wsX60)
def wsX6_meets : List Cond := .code yX6_meets cX6_meets 2 (some .boolean) :: ([.methodLink RX6 97 yX6_rank, .instanceMethod yX6_rank, .selects RX6 yX6_rank yX6_rank, .initialized RX6, .code yX6_rank cX6_rank 13 (some .int), .fieldLink RX6 49 "SpaceWallsModel" "many" "I", .fieldLink RX6 34 "SpaceWallsModel" "table" "[J", .methodLink RX6 41 yX6_at, .instanceMethod yX6_at, .selects RX6 yX6_at yX6_at, .code yX6_at cX6_at 3 (some .int), .fieldLink RX6 9 "SpaceWallsModel" "walls" "[I"] ++ wsX60)
def wsX6_onWalls : List Cond := .code yX6_onWalls cX6_onWalls 4 (some .int) :: ([.fieldLink RX6 49 "SpaceWallsModel" "many" "I", .methodLink RX6 79 yX6_sign, .static yX6_sign, .initialized RX6, .code yX6_sign cX6_sign 2 (some .int), .methodLink RX6 56 yX6_power, .static yX6_power, .code yX6_power cX6_power 3 (some .int)] ++ wsX60)
def wsX6_width_r1 : List Cond := [Cond.fieldLink RX6 37 "SpaceWallsModel" "wide" "I", Cond.methodLink RX6 100 yX6_isFace, Cond.instanceMethod yX6_isFace, Cond.selects RX6 yX6_isFace yX6_isFace, Cond.initialized RX6, Cond.code yX6_isFace cX6_isFace 2 (some .boolean), Cond.fieldLink RX6 13 "SpaceWallsModel" "isFace" "[Z", Cond.methodLink RX6 94 yX6_works, Cond.instanceMethod yX6_works, Cond.selects RX6 yX6_works yX6_works, Cond.code yX6_works cX6_works 5 none, Cond.fieldLink RX6 17 "SpaceWallsModel" "isOld" "Z", Cond.fieldLink RX6 49 "SpaceWallsModel" "many" "I", Cond.methodLink RX6 56 yX6_power, Cond.static yX6_power, Cond.code yX6_power cX6_power 3 (some .int), Cond.methodLink RX6 90 yX6_isThere, Cond.instanceMethod yX6_isThere, Cond.selects RX6 yX6_isThere yX6_isThere, Cond.code yX6_isThere cX6_isThere 6 (some .boolean), Cond.fieldLink RX6 62 "SpaceWallsModel" "sumMany" "I", Cond.fieldLink RX6 21 "SpaceWallsModel" "sums" "[J", Cond.fieldLink RX6 25 "SpaceWallsModel" "isEven" "[Z", Cond.methodLink RX6 76 yX6_begins]
def wsX6_width_r2 : List Cond := [Cond.instanceMethod yX6_begins, Cond.selects RX6 yX6_begins yX6_begins, Cond.code yX6_begins cX6_begins 1 none, Cond.methodLink RX6 79 yX6_sign, Cond.static yX6_sign, Cond.code yX6_sign cX6_sign 2 (some .int), Cond.methodLink RX6 82 yX6_adds, Cond.instanceMethod yX6_adds, Cond.selects RX6 yX6_adds yX6_adds, Cond.code yX6_adds cX6_adds 4 none, Cond.methodLink RX6 41 yX6_at, Cond.instanceMethod yX6_at, Cond.selects RX6 yX6_at yX6_at, Cond.code yX6_at cX6_at 3 (some .int), Cond.fieldLink RX6 9 "SpaceWallsModel" "walls" "[I", Cond.methodLink RX6 86 yX6_takesOut, Cond.instanceMethod yX6_takesOut, Cond.selects RX6 yX6_takesOut yX6_takesOut, Cond.code yX6_takesOut cX6_takesOut 8 none, Cond.fieldLink RX6 65 "SpaceWallsModel" "nextMany" "I", Cond.fieldLink RX6 28 "SpaceWallsModel" "next" "[J", Cond.fieldLink RX6 31 "SpaceWallsModel" "nextEven" "[Z", Cond.methodLink RX6 68 yX6_puts, Cond.instanceMethod yX6_puts]
def wsX6_width_r3 : List Cond := [Cond.selects RX6 yX6_puts yX6_puts, Cond.code yX6_puts cX6_puts 9 none, Cond.methodLink RX6 72 yX6_size, Cond.static yX6_size, Cond.code yX6_size cX6_size 2 (some .long), Cond.methodLink RX6 45 yX6_in, Cond.static yX6_in, Cond.code yX6_in cX6_in 3 (some .boolean), Cond.methodLink RX6 103 yX6_onWalls, Cond.instanceMethod yX6_onWalls, Cond.selects RX6 yX6_onWalls yX6_onWalls, Cond.code yX6_onWalls cX6_onWalls 4 (some .int), Cond.methodLink RX6 97 yX6_rank, Cond.instanceMethod yX6_rank, Cond.selects RX6 yX6_rank yX6_rank, Cond.code yX6_rank cX6_rank 13 (some .int), Cond.fieldLink RX6 34 "SpaceWallsModel" "table" "[J"]
def wsX6_width : List Cond := .code yX6_width cX6_width 2 (some .int) :: ((wsX6_width_r1 ++ (wsX6_width_r2 ++ wsX6_width_r3)) ++ wsX60)
def wsX6_faces_r1 : List Cond := [Cond.fieldLink RX6 37 "SpaceWallsModel" "wide" "I", Cond.fieldLink RX6 49 "SpaceWallsModel" "many" "I", Cond.methodLink RX6 45 yX6_in, Cond.static yX6_in, Cond.initialized RX6, Cond.code yX6_in cX6_in 3 (some .boolean), Cond.methodLink RX6 56 yX6_power, Cond.static yX6_power, Cond.code yX6_power cX6_power 3 (some .int), Cond.methodLink RX6 106 yX6_width, Cond.instanceMethod yX6_width, Cond.selects RX6 yX6_width yX6_width, Cond.code yX6_width cX6_width 2 (some .int), Cond.methodLink RX6 100 yX6_isFace, Cond.instanceMethod yX6_isFace, Cond.selects RX6 yX6_isFace yX6_isFace, Cond.code yX6_isFace cX6_isFace 2 (some .boolean), Cond.fieldLink RX6 13 "SpaceWallsModel" "isFace" "[Z", Cond.methodLink RX6 94 yX6_works, Cond.instanceMethod yX6_works, Cond.selects RX6 yX6_works yX6_works, Cond.code yX6_works cX6_works 5 none, Cond.fieldLink RX6 17 "SpaceWallsModel" "isOld" "Z", Cond.methodLink RX6 90 yX6_isThere]
def wsX6_faces_r2 : List Cond := [Cond.instanceMethod yX6_isThere, Cond.selects RX6 yX6_isThere yX6_isThere, Cond.code yX6_isThere cX6_isThere 6 (some .boolean), Cond.fieldLink RX6 62 "SpaceWallsModel" "sumMany" "I", Cond.fieldLink RX6 21 "SpaceWallsModel" "sums" "[J", Cond.fieldLink RX6 25 "SpaceWallsModel" "isEven" "[Z", Cond.methodLink RX6 76 yX6_begins, Cond.instanceMethod yX6_begins, Cond.selects RX6 yX6_begins yX6_begins, Cond.code yX6_begins cX6_begins 1 none, Cond.methodLink RX6 79 yX6_sign, Cond.static yX6_sign, Cond.code yX6_sign cX6_sign 2 (some .int), Cond.methodLink RX6 82 yX6_adds, Cond.instanceMethod yX6_adds, Cond.selects RX6 yX6_adds yX6_adds, Cond.code yX6_adds cX6_adds 4 none, Cond.methodLink RX6 41 yX6_at, Cond.instanceMethod yX6_at, Cond.selects RX6 yX6_at yX6_at, Cond.code yX6_at cX6_at 3 (some .int), Cond.fieldLink RX6 9 "SpaceWallsModel" "walls" "[I", Cond.methodLink RX6 86 yX6_takesOut, Cond.instanceMethod yX6_takesOut]
def wsX6_faces_r3 : List Cond := [Cond.selects RX6 yX6_takesOut yX6_takesOut, Cond.code yX6_takesOut cX6_takesOut 8 none, Cond.fieldLink RX6 65 "SpaceWallsModel" "nextMany" "I", Cond.fieldLink RX6 28 "SpaceWallsModel" "next" "[J", Cond.fieldLink RX6 31 "SpaceWallsModel" "nextEven" "[Z", Cond.methodLink RX6 68 yX6_puts, Cond.instanceMethod yX6_puts, Cond.selects RX6 yX6_puts yX6_puts, Cond.code yX6_puts cX6_puts 9 none, Cond.methodLink RX6 72 yX6_size, Cond.static yX6_size, Cond.code yX6_size cX6_size 2 (some .long), Cond.methodLink RX6 103 yX6_onWalls, Cond.instanceMethod yX6_onWalls, Cond.selects RX6 yX6_onWalls yX6_onWalls, Cond.code yX6_onWalls cX6_onWalls 4 (some .int), Cond.methodLink RX6 97 yX6_rank, Cond.instanceMethod yX6_rank, Cond.selects RX6 yX6_rank yX6_rank, Cond.code yX6_rank cX6_rank 13 (some .int), Cond.fieldLink RX6 34 "SpaceWallsModel" "table" "[J"]
def wsX6_faces : List Cond := .code yX6_faces cX6_faces 4 (some .int) :: ((wsX6_faces_r1 ++ (wsX6_faces_r2 ++ wsX6_faces_r3)) ++ wsX60)
def wsX6_face_r1 : List Cond := [Cond.fieldLink RX6 37 "SpaceWallsModel" "wide" "I", Cond.fieldLink RX6 49 "SpaceWallsModel" "many" "I", Cond.methodLink RX6 45 yX6_in, Cond.static yX6_in, Cond.initialized RX6, Cond.code yX6_in cX6_in 3 (some .boolean), Cond.methodLink RX6 56 yX6_power, Cond.static yX6_power, Cond.code yX6_power cX6_power 3 (some .int), Cond.methodLink RX6 106 yX6_width, Cond.instanceMethod yX6_width, Cond.selects RX6 yX6_width yX6_width, Cond.code yX6_width cX6_width 2 (some .int), Cond.methodLink RX6 100 yX6_isFace, Cond.instanceMethod yX6_isFace, Cond.selects RX6 yX6_isFace yX6_isFace, Cond.code yX6_isFace cX6_isFace 2 (some .boolean), Cond.fieldLink RX6 13 "SpaceWallsModel" "isFace" "[Z", Cond.methodLink RX6 94 yX6_works, Cond.instanceMethod yX6_works, Cond.selects RX6 yX6_works yX6_works, Cond.code yX6_works cX6_works 5 none, Cond.fieldLink RX6 17 "SpaceWallsModel" "isOld" "Z", Cond.methodLink RX6 90 yX6_isThere]
def wsX6_face_r2 : List Cond := [Cond.instanceMethod yX6_isThere, Cond.selects RX6 yX6_isThere yX6_isThere, Cond.code yX6_isThere cX6_isThere 6 (some .boolean), Cond.fieldLink RX6 62 "SpaceWallsModel" "sumMany" "I", Cond.fieldLink RX6 21 "SpaceWallsModel" "sums" "[J", Cond.fieldLink RX6 25 "SpaceWallsModel" "isEven" "[Z", Cond.methodLink RX6 76 yX6_begins, Cond.instanceMethod yX6_begins, Cond.selects RX6 yX6_begins yX6_begins, Cond.code yX6_begins cX6_begins 1 none, Cond.methodLink RX6 79 yX6_sign, Cond.static yX6_sign, Cond.code yX6_sign cX6_sign 2 (some .int), Cond.methodLink RX6 82 yX6_adds, Cond.instanceMethod yX6_adds, Cond.selects RX6 yX6_adds yX6_adds, Cond.code yX6_adds cX6_adds 4 none, Cond.methodLink RX6 41 yX6_at, Cond.instanceMethod yX6_at, Cond.selects RX6 yX6_at yX6_at, Cond.code yX6_at cX6_at 3 (some .int), Cond.fieldLink RX6 9 "SpaceWallsModel" "walls" "[I", Cond.methodLink RX6 86 yX6_takesOut, Cond.instanceMethod yX6_takesOut]
def wsX6_face_r3 : List Cond := [Cond.selects RX6 yX6_takesOut yX6_takesOut, Cond.code yX6_takesOut cX6_takesOut 8 none, Cond.fieldLink RX6 65 "SpaceWallsModel" "nextMany" "I", Cond.fieldLink RX6 28 "SpaceWallsModel" "next" "[J", Cond.fieldLink RX6 31 "SpaceWallsModel" "nextEven" "[Z", Cond.methodLink RX6 68 yX6_puts, Cond.instanceMethod yX6_puts, Cond.selects RX6 yX6_puts yX6_puts, Cond.code yX6_puts cX6_puts 9 none, Cond.methodLink RX6 72 yX6_size, Cond.static yX6_size, Cond.code yX6_size cX6_size 2 (some .long), Cond.methodLink RX6 103 yX6_onWalls, Cond.instanceMethod yX6_onWalls, Cond.selects RX6 yX6_onWalls yX6_onWalls, Cond.code yX6_onWalls cX6_onWalls 4 (some .int), Cond.methodLink RX6 97 yX6_rank, Cond.instanceMethod yX6_rank, Cond.selects RX6 yX6_rank yX6_rank, Cond.code yX6_rank cX6_rank 13 (some .int), Cond.fieldLink RX6 34 "SpaceWallsModel" "table" "[J"]
def wsX6_face : List Cond := .code yX6_face cX6_face 5 (some .int) :: ((wsX6_face_r1 ++ (wsX6_face_r2 ++ wsX6_face_r3)) ++ wsX60)
def wsX6_isRoom_r1 : List Cond := [Cond.methodLink RX6 100 yX6_isFace, Cond.instanceMethod yX6_isFace, Cond.selects RX6 yX6_isFace yX6_isFace, Cond.initialized RX6, Cond.code yX6_isFace cX6_isFace 2 (some .boolean), Cond.fieldLink RX6 13 "SpaceWallsModel" "isFace" "[Z", Cond.methodLink RX6 94 yX6_works, Cond.instanceMethod yX6_works, Cond.selects RX6 yX6_works yX6_works, Cond.code yX6_works cX6_works 5 none, Cond.fieldLink RX6 17 "SpaceWallsModel" "isOld" "Z", Cond.fieldLink RX6 49 "SpaceWallsModel" "many" "I", Cond.methodLink RX6 56 yX6_power, Cond.static yX6_power, Cond.code yX6_power cX6_power 3 (some .int), Cond.methodLink RX6 90 yX6_isThere, Cond.instanceMethod yX6_isThere, Cond.selects RX6 yX6_isThere yX6_isThere, Cond.code yX6_isThere cX6_isThere 6 (some .boolean), Cond.fieldLink RX6 37 "SpaceWallsModel" "wide" "I", Cond.fieldLink RX6 62 "SpaceWallsModel" "sumMany" "I", Cond.fieldLink RX6 21 "SpaceWallsModel" "sums" "[J", Cond.fieldLink RX6 25 "SpaceWallsModel" "isEven" "[Z", Cond.methodLink RX6 76 yX6_begins]
def wsX6_isRoom_r2 : List Cond := [Cond.instanceMethod yX6_begins, Cond.selects RX6 yX6_begins yX6_begins, Cond.code yX6_begins cX6_begins 1 none, Cond.methodLink RX6 79 yX6_sign, Cond.static yX6_sign, Cond.code yX6_sign cX6_sign 2 (some .int), Cond.methodLink RX6 82 yX6_adds, Cond.instanceMethod yX6_adds, Cond.selects RX6 yX6_adds yX6_adds, Cond.code yX6_adds cX6_adds 4 none, Cond.methodLink RX6 41 yX6_at, Cond.instanceMethod yX6_at, Cond.selects RX6 yX6_at yX6_at, Cond.code yX6_at cX6_at 3 (some .int), Cond.fieldLink RX6 9 "SpaceWallsModel" "walls" "[I", Cond.methodLink RX6 86 yX6_takesOut, Cond.instanceMethod yX6_takesOut, Cond.selects RX6 yX6_takesOut yX6_takesOut, Cond.code yX6_takesOut cX6_takesOut 8 none, Cond.fieldLink RX6 65 "SpaceWallsModel" "nextMany" "I", Cond.fieldLink RX6 28 "SpaceWallsModel" "next" "[J", Cond.fieldLink RX6 31 "SpaceWallsModel" "nextEven" "[Z", Cond.methodLink RX6 68 yX6_puts, Cond.instanceMethod yX6_puts]
def wsX6_isRoom_r3 : List Cond := [Cond.selects RX6 yX6_puts yX6_puts, Cond.code yX6_puts cX6_puts 9 none, Cond.methodLink RX6 72 yX6_size, Cond.static yX6_size, Cond.code yX6_size cX6_size 2 (some .long), Cond.methodLink RX6 45 yX6_in, Cond.static yX6_in, Cond.code yX6_in cX6_in 3 (some .boolean), Cond.methodLink RX6 103 yX6_onWalls, Cond.instanceMethod yX6_onWalls, Cond.selects RX6 yX6_onWalls yX6_onWalls, Cond.code yX6_onWalls cX6_onWalls 4 (some .int)]
def wsX6_isRoom : List Cond := .code yX6_isRoom cX6_isRoom 2 (some .boolean) :: ((wsX6_isRoom_r1 ++ (wsX6_isRoom_r2 ++ wsX6_isRoom_r3)) ++ wsX60)
def wsX6_leadsOn : List Cond := .code yX6_leadsOn cX6_leadsOn 7 (some .boolean) :: ([.fieldLink RX6 49 "SpaceWallsModel" "many" "I", .methodLink RX6 41 yX6_at, .instanceMethod yX6_at, .selects RX6 yX6_at yX6_at, .initialized RX6, .code yX6_at cX6_at 3 (some .int), .fieldLink RX6 9 "SpaceWallsModel" "walls" "[I", .methodLink RX6 79 yX6_sign, .static yX6_sign, .code yX6_sign cX6_sign 2 (some .int), .methodLink RX6 56 yX6_power, .static yX6_power, .code yX6_power cX6_power 3 (some .int)] ++ wsX60)
def wsX6_leadsEither : List Cond := .code yX6_leadsEither cX6_leadsEither 5 (some .boolean) :: ([.methodLink RX6 109 yX6_leadsOn, .instanceMethod yX6_leadsOn, .selects RX6 yX6_leadsOn yX6_leadsOn, .initialized RX6, .code yX6_leadsOn cX6_leadsOn 7 (some .boolean), .fieldLink RX6 49 "SpaceWallsModel" "many" "I", .methodLink RX6 41 yX6_at, .instanceMethod yX6_at, .selects RX6 yX6_at yX6_at, .code yX6_at cX6_at 3 (some .int), .fieldLink RX6 9 "SpaceWallsModel" "walls" "[I", .methodLink RX6 79 yX6_sign, .static yX6_sign, .code yX6_sign cX6_sign 2 (some .int), .methodLink RX6 56 yX6_power, .static yX6_power, .code yX6_power cX6_power 3 (some .int)] ++ wsX60)
def wsX6_bounded_r1 : List Cond := [Cond.fieldLink RX6 49 "SpaceWallsModel" "many" "I", Cond.fieldLink RX6 37 "SpaceWallsModel" "wide" "I", Cond.methodLink RX6 113 yX6_isRoom, Cond.instanceMethod yX6_isRoom, Cond.selects RX6 yX6_isRoom yX6_isRoom, Cond.initialized RX6, Cond.code yX6_isRoom cX6_isRoom 2 (some .boolean), Cond.methodLink RX6 100 yX6_isFace, Cond.instanceMethod yX6_isFace, Cond.selects RX6 yX6_isFace yX6_isFace, Cond.code yX6_isFace cX6_isFace 2 (some .boolean), Cond.fieldLink RX6 13 "SpaceWallsModel" "isFace" "[Z", Cond.methodLink RX6 94 yX6_works, Cond.instanceMethod yX6_works, Cond.selects RX6 yX6_works yX6_works, Cond.code yX6_works cX6_works 5 none, Cond.fieldLink RX6 17 "SpaceWallsModel" "isOld" "Z", Cond.methodLink RX6 56 yX6_power, Cond.static yX6_power, Cond.code yX6_power cX6_power 3 (some .int), Cond.methodLink RX6 90 yX6_isThere, Cond.instanceMethod yX6_isThere, Cond.selects RX6 yX6_isThere yX6_isThere, Cond.code yX6_isThere cX6_isThere 6 (some .boolean)]
def wsX6_bounded_r2 : List Cond := [Cond.fieldLink RX6 62 "SpaceWallsModel" "sumMany" "I", Cond.fieldLink RX6 21 "SpaceWallsModel" "sums" "[J", Cond.fieldLink RX6 25 "SpaceWallsModel" "isEven" "[Z", Cond.methodLink RX6 76 yX6_begins, Cond.instanceMethod yX6_begins, Cond.selects RX6 yX6_begins yX6_begins, Cond.code yX6_begins cX6_begins 1 none, Cond.methodLink RX6 79 yX6_sign, Cond.static yX6_sign, Cond.code yX6_sign cX6_sign 2 (some .int), Cond.methodLink RX6 82 yX6_adds, Cond.instanceMethod yX6_adds, Cond.selects RX6 yX6_adds yX6_adds, Cond.code yX6_adds cX6_adds 4 none, Cond.methodLink RX6 41 yX6_at, Cond.instanceMethod yX6_at, Cond.selects RX6 yX6_at yX6_at, Cond.code yX6_at cX6_at 3 (some .int), Cond.fieldLink RX6 9 "SpaceWallsModel" "walls" "[I", Cond.methodLink RX6 86 yX6_takesOut, Cond.instanceMethod yX6_takesOut, Cond.selects RX6 yX6_takesOut yX6_takesOut, Cond.code yX6_takesOut cX6_takesOut 8 none, Cond.fieldLink RX6 65 "SpaceWallsModel" "nextMany" "I"]
def wsX6_bounded_r3 : List Cond := [Cond.fieldLink RX6 28 "SpaceWallsModel" "next" "[J", Cond.fieldLink RX6 31 "SpaceWallsModel" "nextEven" "[Z", Cond.methodLink RX6 68 yX6_puts, Cond.instanceMethod yX6_puts, Cond.selects RX6 yX6_puts yX6_puts, Cond.code yX6_puts cX6_puts 9 none, Cond.methodLink RX6 72 yX6_size, Cond.static yX6_size, Cond.code yX6_size cX6_size 2 (some .long), Cond.methodLink RX6 45 yX6_in, Cond.static yX6_in, Cond.code yX6_in cX6_in 3 (some .boolean), Cond.methodLink RX6 103 yX6_onWalls, Cond.instanceMethod yX6_onWalls, Cond.selects RX6 yX6_onWalls yX6_onWalls, Cond.code yX6_onWalls cX6_onWalls 4 (some .int), Cond.methodLink RX6 97 yX6_rank, Cond.instanceMethod yX6_rank, Cond.selects RX6 yX6_rank yX6_rank, Cond.code yX6_rank cX6_rank 13 (some .int), Cond.fieldLink RX6 34 "SpaceWallsModel" "table" "[J", Cond.methodLink RX6 116 yX6_leadsEither, Cond.instanceMethod yX6_leadsEither, Cond.selects RX6 yX6_leadsEither yX6_leadsEither]
def wsX6_bounded_r4 : List Cond := [Cond.code yX6_leadsEither cX6_leadsEither 5 (some .boolean), Cond.methodLink RX6 109 yX6_leadsOn, Cond.instanceMethod yX6_leadsOn, Cond.selects RX6 yX6_leadsOn yX6_leadsOn, Cond.code yX6_leadsOn cX6_leadsOn 7 (some .boolean)]
def wsX6_bounded : List Cond := .code yX6_bounded cX6_bounded 7 (some .boolean) :: ((wsX6_bounded_r1 ++ (wsX6_bounded_r2 ++ (wsX6_bounded_r3 ++ wsX6_bounded_r4))) ++ wsX60)
def wsX6_boundedRooms_r1 : List Cond := [Cond.fieldLink RX6 49 "SpaceWallsModel" "many" "I", Cond.methodLink RX6 56 yX6_power, Cond.static yX6_power, Cond.initialized RX6, Cond.code yX6_power cX6_power 3 (some .int), Cond.methodLink RX6 113 yX6_isRoom, Cond.instanceMethod yX6_isRoom, Cond.selects RX6 yX6_isRoom yX6_isRoom, Cond.code yX6_isRoom cX6_isRoom 2 (some .boolean), Cond.methodLink RX6 100 yX6_isFace, Cond.instanceMethod yX6_isFace, Cond.selects RX6 yX6_isFace yX6_isFace, Cond.code yX6_isFace cX6_isFace 2 (some .boolean), Cond.fieldLink RX6 13 "SpaceWallsModel" "isFace" "[Z", Cond.methodLink RX6 94 yX6_works, Cond.instanceMethod yX6_works, Cond.selects RX6 yX6_works yX6_works, Cond.code yX6_works cX6_works 5 none, Cond.fieldLink RX6 17 "SpaceWallsModel" "isOld" "Z", Cond.methodLink RX6 90 yX6_isThere, Cond.instanceMethod yX6_isThere, Cond.selects RX6 yX6_isThere yX6_isThere, Cond.code yX6_isThere cX6_isThere 6 (some .boolean), Cond.fieldLink RX6 37 "SpaceWallsModel" "wide" "I"]
def wsX6_boundedRooms_r2 : List Cond := [Cond.fieldLink RX6 62 "SpaceWallsModel" "sumMany" "I", Cond.fieldLink RX6 21 "SpaceWallsModel" "sums" "[J", Cond.fieldLink RX6 25 "SpaceWallsModel" "isEven" "[Z", Cond.methodLink RX6 76 yX6_begins, Cond.instanceMethod yX6_begins, Cond.selects RX6 yX6_begins yX6_begins, Cond.code yX6_begins cX6_begins 1 none, Cond.methodLink RX6 79 yX6_sign, Cond.static yX6_sign, Cond.code yX6_sign cX6_sign 2 (some .int), Cond.methodLink RX6 82 yX6_adds, Cond.instanceMethod yX6_adds, Cond.selects RX6 yX6_adds yX6_adds, Cond.code yX6_adds cX6_adds 4 none, Cond.methodLink RX6 41 yX6_at, Cond.instanceMethod yX6_at, Cond.selects RX6 yX6_at yX6_at, Cond.code yX6_at cX6_at 3 (some .int), Cond.fieldLink RX6 9 "SpaceWallsModel" "walls" "[I", Cond.methodLink RX6 86 yX6_takesOut, Cond.instanceMethod yX6_takesOut, Cond.selects RX6 yX6_takesOut yX6_takesOut, Cond.code yX6_takesOut cX6_takesOut 8 none, Cond.fieldLink RX6 65 "SpaceWallsModel" "nextMany" "I"]
def wsX6_boundedRooms_r3 : List Cond := [Cond.fieldLink RX6 28 "SpaceWallsModel" "next" "[J", Cond.fieldLink RX6 31 "SpaceWallsModel" "nextEven" "[Z", Cond.methodLink RX6 68 yX6_puts, Cond.instanceMethod yX6_puts, Cond.selects RX6 yX6_puts yX6_puts, Cond.code yX6_puts cX6_puts 9 none, Cond.methodLink RX6 72 yX6_size, Cond.static yX6_size, Cond.code yX6_size cX6_size 2 (some .long), Cond.methodLink RX6 45 yX6_in, Cond.static yX6_in, Cond.code yX6_in cX6_in 3 (some .boolean), Cond.methodLink RX6 103 yX6_onWalls, Cond.instanceMethod yX6_onWalls, Cond.selects RX6 yX6_onWalls yX6_onWalls, Cond.code yX6_onWalls cX6_onWalls 4 (some .int), Cond.methodLink RX6 119 yX6_bounded, Cond.instanceMethod yX6_bounded, Cond.selects RX6 yX6_bounded yX6_bounded, Cond.code yX6_bounded cX6_bounded 7 (some .boolean), Cond.methodLink RX6 97 yX6_rank, Cond.instanceMethod yX6_rank, Cond.selects RX6 yX6_rank yX6_rank, Cond.code yX6_rank cX6_rank 13 (some .int)]
def wsX6_boundedRooms_r4 : List Cond := [Cond.fieldLink RX6 34 "SpaceWallsModel" "table" "[J", Cond.methodLink RX6 116 yX6_leadsEither, Cond.instanceMethod yX6_leadsEither, Cond.selects RX6 yX6_leadsEither yX6_leadsEither, Cond.code yX6_leadsEither cX6_leadsEither 5 (some .boolean), Cond.methodLink RX6 109 yX6_leadsOn, Cond.instanceMethod yX6_leadsOn, Cond.selects RX6 yX6_leadsOn yX6_leadsOn, Cond.code yX6_leadsOn cX6_leadsOn 7 (some .boolean)]
def wsX6_boundedRooms : List Cond := .code yX6_boundedRooms cX6_boundedRooms 3 (some .int) :: ((wsX6_boundedRooms_r1 ++ (wsX6_boundedRooms_r2 ++ (wsX6_boundedRooms_r3 ++ wsX6_boundedRooms_r4))) ++ wsX60)
def wsX6_odd : List Cond := .code yX6_odd cX6_odd 3 (some .int) :: ([])
def wsX6_polynomial : List Cond := .code yX6_polynomial cX6_polynomial 5 (some .int) :: ([.fieldLink RX6 49 "SpaceWallsModel" "many" "I", .fieldLink RX6 37 "SpaceWallsModel" "wide" "I", .methodLink RX6 122 yX6_meets, .instanceMethod yX6_meets, .selects RX6 yX6_meets yX6_meets, .initialized RX6, .code yX6_meets cX6_meets 2 (some .boolean), .methodLink RX6 97 yX6_rank, .instanceMethod yX6_rank, .selects RX6 yX6_rank yX6_rank, .code yX6_rank cX6_rank 13 (some .int), .fieldLink RX6 34 "SpaceWallsModel" "table" "[J", .methodLink RX6 41 yX6_at, .instanceMethod yX6_at, .selects RX6 yX6_at yX6_at, .code yX6_at cX6_at 3 (some .int), .fieldLink RX6 9 "SpaceWallsModel" "walls" "[I", .methodLink RX6 125 yX6_odd, .static yX6_odd, .code yX6_odd cX6_odd 3 (some .int)] ++ wsX60)
def wsX6_poly : List Cond := .code yX6_poly cX6_poly 2 (some .int) :: ([.fieldLink RX6 49 "SpaceWallsModel" "many" "I", .methodLink RX6 128 yX6_polynomial, .instanceMethod yX6_polynomial, .selects RX6 yX6_polynomial yX6_polynomial, .initialized RX6, .code yX6_polynomial cX6_polynomial 5 (some .int), .fieldLink RX6 37 "SpaceWallsModel" "wide" "I", .methodLink RX6 122 yX6_meets, .instanceMethod yX6_meets, .selects RX6 yX6_meets yX6_meets, .code yX6_meets cX6_meets 2 (some .boolean), .methodLink RX6 97 yX6_rank, .instanceMethod yX6_rank, .selects RX6 yX6_rank yX6_rank, .code yX6_rank cX6_rank 13 (some .int), .fieldLink RX6 34 "SpaceWallsModel" "table" "[J", .methodLink RX6 41 yX6_at, .instanceMethod yX6_at, .selects RX6 yX6_at yX6_at, .code yX6_at cX6_at 3 (some .int), .fieldLink RX6 9 "SpaceWallsModel" "walls" "[I", .methodLink RX6 125 yX6_odd, .static yX6_odd, .code yX6_odd cX6_odd 3 (some .int)] ++ wsX60)
def wsX6_without_r1 : List Cond := [Cond.fieldLink RX6 49 "SpaceWallsModel" "many" "I", Cond.methodLink RX6 45 yX6_in, Cond.static yX6_in, Cond.initialized RX6, Cond.code yX6_in cX6_in 3 (some .boolean), Cond.methodLink RX6 128 yX6_polynomial, Cond.instanceMethod yX6_polynomial, Cond.selects RX6 yX6_polynomial yX6_polynomial, Cond.code yX6_polynomial cX6_polynomial 5 (some .int), Cond.fieldLink RX6 37 "SpaceWallsModel" "wide" "I", Cond.methodLink RX6 122 yX6_meets, Cond.instanceMethod yX6_meets, Cond.selects RX6 yX6_meets yX6_meets, Cond.code yX6_meets cX6_meets 2 (some .boolean), Cond.methodLink RX6 97 yX6_rank, Cond.instanceMethod yX6_rank, Cond.selects RX6 yX6_rank yX6_rank, Cond.code yX6_rank cX6_rank 13 (some .int), Cond.fieldLink RX6 34 "SpaceWallsModel" "table" "[J", Cond.methodLink RX6 41 yX6_at, Cond.instanceMethod yX6_at, Cond.selects RX6 yX6_at yX6_at, Cond.code yX6_at cX6_at 3 (some .int), Cond.fieldLink RX6 9 "SpaceWallsModel" "walls" "[I"]
def wsX6_without_r2 : List Cond := [Cond.methodLink RX6 125 yX6_odd, Cond.static yX6_odd, Cond.code yX6_odd cX6_odd 3 (some .int)]
def wsX6_without : List Cond := .code yX6_without cX6_without 3 (some .int) :: ((wsX6_without_r1 ++ wsX6_without_r2) ++ wsX60)
def wsX6_on : List Cond := .code yX6_on cX6_on 8 (some .int) :: ([.fieldLink RX6 49 "SpaceWallsModel" "many" "I", .fieldLink RX6 37 "SpaceWallsModel" "wide" "I", .methodLink RX6 45 yX6_in, .static yX6_in, .initialized RX6, .code yX6_in cX6_in 3 (some .boolean), .methodLink RX6 122 yX6_meets, .instanceMethod yX6_meets, .selects RX6 yX6_meets yX6_meets, .code yX6_meets cX6_meets 2 (some .boolean), .methodLink RX6 97 yX6_rank, .instanceMethod yX6_rank, .selects RX6 yX6_rank yX6_rank, .code yX6_rank cX6_rank 13 (some .int), .fieldLink RX6 34 "SpaceWallsModel" "table" "[J", .methodLink RX6 41 yX6_at, .instanceMethod yX6_at, .selects RX6 yX6_at yX6_at, .code yX6_at cX6_at 3 (some .int), .fieldLink RX6 9 "SpaceWallsModel" "walls" "[I", .methodLink RX6 125 yX6_odd, .static yX6_odd, .code yX6_odd cX6_odd 3 (some .int)] ++ wsX60)
def wsX6_across : List Cond := .code yX6_across cX6_across 2 (some .int) :: ([.methodLink RX6 56 yX6_power, .static yX6_power, .initialized RX6, .code yX6_power cX6_power 3 (some .int), .methodLink RX6 79 yX6_sign, .static yX6_sign, .code yX6_sign cX6_sign 2 (some .int)])
def wsX6_walls_r1 : List Cond := [Cond.fieldLink RX6 49 "SpaceWallsModel" "many" "I", Cond.methodLink RX6 113 yX6_isRoom, Cond.instanceMethod yX6_isRoom, Cond.selects RX6 yX6_isRoom yX6_isRoom, Cond.initialized RX6, Cond.code yX6_isRoom cX6_isRoom 2 (some .boolean), Cond.methodLink RX6 100 yX6_isFace, Cond.instanceMethod yX6_isFace, Cond.selects RX6 yX6_isFace yX6_isFace, Cond.code yX6_isFace cX6_isFace 2 (some .boolean), Cond.fieldLink RX6 13 "SpaceWallsModel" "isFace" "[Z", Cond.methodLink RX6 94 yX6_works, Cond.instanceMethod yX6_works, Cond.selects RX6 yX6_works yX6_works, Cond.code yX6_works cX6_works 5 none, Cond.fieldLink RX6 17 "SpaceWallsModel" "isOld" "Z", Cond.methodLink RX6 56 yX6_power, Cond.static yX6_power, Cond.code yX6_power cX6_power 3 (some .int), Cond.methodLink RX6 90 yX6_isThere, Cond.instanceMethod yX6_isThere, Cond.selects RX6 yX6_isThere yX6_isThere, Cond.code yX6_isThere cX6_isThere 6 (some .boolean), Cond.fieldLink RX6 37 "SpaceWallsModel" "wide" "I"]
def wsX6_walls_r2 : List Cond := [Cond.fieldLink RX6 62 "SpaceWallsModel" "sumMany" "I", Cond.fieldLink RX6 21 "SpaceWallsModel" "sums" "[J", Cond.fieldLink RX6 25 "SpaceWallsModel" "isEven" "[Z", Cond.methodLink RX6 76 yX6_begins, Cond.instanceMethod yX6_begins, Cond.selects RX6 yX6_begins yX6_begins, Cond.code yX6_begins cX6_begins 1 none, Cond.methodLink RX6 79 yX6_sign, Cond.static yX6_sign, Cond.code yX6_sign cX6_sign 2 (some .int), Cond.methodLink RX6 82 yX6_adds, Cond.instanceMethod yX6_adds, Cond.selects RX6 yX6_adds yX6_adds, Cond.code yX6_adds cX6_adds 4 none, Cond.methodLink RX6 41 yX6_at, Cond.instanceMethod yX6_at, Cond.selects RX6 yX6_at yX6_at, Cond.code yX6_at cX6_at 3 (some .int), Cond.fieldLink RX6 9 "SpaceWallsModel" "walls" "[I", Cond.methodLink RX6 86 yX6_takesOut, Cond.instanceMethod yX6_takesOut, Cond.selects RX6 yX6_takesOut yX6_takesOut, Cond.code yX6_takesOut cX6_takesOut 8 none, Cond.fieldLink RX6 65 "SpaceWallsModel" "nextMany" "I"]
def wsX6_walls_r3 : List Cond := [Cond.fieldLink RX6 28 "SpaceWallsModel" "next" "[J", Cond.fieldLink RX6 31 "SpaceWallsModel" "nextEven" "[Z", Cond.methodLink RX6 68 yX6_puts, Cond.instanceMethod yX6_puts, Cond.selects RX6 yX6_puts yX6_puts, Cond.code yX6_puts cX6_puts 9 none, Cond.methodLink RX6 72 yX6_size, Cond.static yX6_size, Cond.code yX6_size cX6_size 2 (some .long), Cond.methodLink RX6 45 yX6_in, Cond.static yX6_in, Cond.code yX6_in cX6_in 3 (some .boolean), Cond.methodLink RX6 103 yX6_onWalls, Cond.instanceMethod yX6_onWalls, Cond.selects RX6 yX6_onWalls yX6_onWalls, Cond.code yX6_onWalls cX6_onWalls 4 (some .int), Cond.methodLink RX6 131 yX6_across, Cond.static yX6_across, Cond.code yX6_across cX6_across 2 (some .int)]
def wsX6_walls : List Cond := .code yX6_walls cX6_walls 4 (some .int) :: ((wsX6_walls_r1 ++ (wsX6_walls_r2 ++ wsX6_walls_r3)) ++ wsX60)
def wsX6_beside_r1 : List Cond := [Cond.fieldLink RX6 49 "SpaceWallsModel" "many" "I", Cond.methodLink RX6 113 yX6_isRoom, Cond.instanceMethod yX6_isRoom, Cond.selects RX6 yX6_isRoom yX6_isRoom, Cond.initialized RX6, Cond.code yX6_isRoom cX6_isRoom 2 (some .boolean), Cond.methodLink RX6 100 yX6_isFace, Cond.instanceMethod yX6_isFace, Cond.selects RX6 yX6_isFace yX6_isFace, Cond.code yX6_isFace cX6_isFace 2 (some .boolean), Cond.fieldLink RX6 13 "SpaceWallsModel" "isFace" "[Z", Cond.methodLink RX6 94 yX6_works, Cond.instanceMethod yX6_works, Cond.selects RX6 yX6_works yX6_works, Cond.code yX6_works cX6_works 5 none, Cond.fieldLink RX6 17 "SpaceWallsModel" "isOld" "Z", Cond.methodLink RX6 56 yX6_power, Cond.static yX6_power, Cond.code yX6_power cX6_power 3 (some .int), Cond.methodLink RX6 90 yX6_isThere, Cond.instanceMethod yX6_isThere, Cond.selects RX6 yX6_isThere yX6_isThere, Cond.code yX6_isThere cX6_isThere 6 (some .boolean), Cond.fieldLink RX6 37 "SpaceWallsModel" "wide" "I"]
def wsX6_beside_r2 : List Cond := [Cond.fieldLink RX6 62 "SpaceWallsModel" "sumMany" "I", Cond.fieldLink RX6 21 "SpaceWallsModel" "sums" "[J", Cond.fieldLink RX6 25 "SpaceWallsModel" "isEven" "[Z", Cond.methodLink RX6 76 yX6_begins, Cond.instanceMethod yX6_begins, Cond.selects RX6 yX6_begins yX6_begins, Cond.code yX6_begins cX6_begins 1 none, Cond.methodLink RX6 79 yX6_sign, Cond.static yX6_sign, Cond.code yX6_sign cX6_sign 2 (some .int), Cond.methodLink RX6 82 yX6_adds, Cond.instanceMethod yX6_adds, Cond.selects RX6 yX6_adds yX6_adds, Cond.code yX6_adds cX6_adds 4 none, Cond.methodLink RX6 41 yX6_at, Cond.instanceMethod yX6_at, Cond.selects RX6 yX6_at yX6_at, Cond.code yX6_at cX6_at 3 (some .int), Cond.fieldLink RX6 9 "SpaceWallsModel" "walls" "[I", Cond.methodLink RX6 86 yX6_takesOut, Cond.instanceMethod yX6_takesOut, Cond.selects RX6 yX6_takesOut yX6_takesOut, Cond.code yX6_takesOut cX6_takesOut 8 none, Cond.fieldLink RX6 65 "SpaceWallsModel" "nextMany" "I"]
def wsX6_beside_r3 : List Cond := [Cond.fieldLink RX6 28 "SpaceWallsModel" "next" "[J", Cond.fieldLink RX6 31 "SpaceWallsModel" "nextEven" "[Z", Cond.methodLink RX6 68 yX6_puts, Cond.instanceMethod yX6_puts, Cond.selects RX6 yX6_puts yX6_puts, Cond.code yX6_puts cX6_puts 9 none, Cond.methodLink RX6 72 yX6_size, Cond.static yX6_size, Cond.code yX6_size cX6_size 2 (some .long), Cond.methodLink RX6 45 yX6_in, Cond.static yX6_in, Cond.code yX6_in cX6_in 3 (some .boolean), Cond.methodLink RX6 103 yX6_onWalls, Cond.instanceMethod yX6_onWalls, Cond.selects RX6 yX6_onWalls yX6_onWalls, Cond.code yX6_onWalls cX6_onWalls 4 (some .int), Cond.methodLink RX6 131 yX6_across, Cond.static yX6_across, Cond.code yX6_across cX6_across 2 (some .int)]
def wsX6_beside : List Cond := .code yX6_beside cX6_beside 4 (some .int) :: ((wsX6_beside_r1 ++ (wsX6_beside_r2 ++ wsX6_beside_r3)) ++ wsX60)
def wsX6_parted : List Cond := .code yX6_parted cX6_parted 5 (some .int) :: ([.fieldLink RX6 49 "SpaceWallsModel" "many" "I", .methodLink RX6 79 yX6_sign, .static yX6_sign, .initialized RX6, .code yX6_sign cX6_sign 2 (some .int), .methodLink RX6 56 yX6_power, .static yX6_power, .code yX6_power cX6_power 3 (some .int)] ++ wsX60)
def wsX6_bits : List Cond := .code yX6_bits cX6_bits 3 (some .int) :: ([])
def wsX6_way_r1 : List Cond := [Cond.methodLink RX6 113 yX6_isRoom, Cond.instanceMethod yX6_isRoom, Cond.selects RX6 yX6_isRoom yX6_isRoom, Cond.initialized RX6, Cond.code yX6_isRoom cX6_isRoom 2 (some .boolean), Cond.methodLink RX6 100 yX6_isFace, Cond.instanceMethod yX6_isFace, Cond.selects RX6 yX6_isFace yX6_isFace, Cond.code yX6_isFace cX6_isFace 2 (some .boolean), Cond.fieldLink RX6 13 "SpaceWallsModel" "isFace" "[Z", Cond.methodLink RX6 94 yX6_works, Cond.instanceMethod yX6_works, Cond.selects RX6 yX6_works yX6_works, Cond.code yX6_works cX6_works 5 none, Cond.fieldLink RX6 17 "SpaceWallsModel" "isOld" "Z", Cond.fieldLink RX6 49 "SpaceWallsModel" "many" "I", Cond.methodLink RX6 56 yX6_power, Cond.static yX6_power, Cond.code yX6_power cX6_power 3 (some .int), Cond.methodLink RX6 90 yX6_isThere, Cond.instanceMethod yX6_isThere, Cond.selects RX6 yX6_isThere yX6_isThere, Cond.code yX6_isThere cX6_isThere 6 (some .boolean), Cond.fieldLink RX6 37 "SpaceWallsModel" "wide" "I"]
def wsX6_way_r2 : List Cond := [Cond.fieldLink RX6 62 "SpaceWallsModel" "sumMany" "I", Cond.fieldLink RX6 21 "SpaceWallsModel" "sums" "[J", Cond.fieldLink RX6 25 "SpaceWallsModel" "isEven" "[Z", Cond.methodLink RX6 76 yX6_begins, Cond.instanceMethod yX6_begins, Cond.selects RX6 yX6_begins yX6_begins, Cond.code yX6_begins cX6_begins 1 none, Cond.methodLink RX6 79 yX6_sign, Cond.static yX6_sign, Cond.code yX6_sign cX6_sign 2 (some .int), Cond.methodLink RX6 82 yX6_adds, Cond.instanceMethod yX6_adds, Cond.selects RX6 yX6_adds yX6_adds, Cond.code yX6_adds cX6_adds 4 none, Cond.methodLink RX6 41 yX6_at, Cond.instanceMethod yX6_at, Cond.selects RX6 yX6_at yX6_at, Cond.code yX6_at cX6_at 3 (some .int), Cond.fieldLink RX6 9 "SpaceWallsModel" "walls" "[I", Cond.methodLink RX6 86 yX6_takesOut, Cond.instanceMethod yX6_takesOut, Cond.selects RX6 yX6_takesOut yX6_takesOut, Cond.code yX6_takesOut cX6_takesOut 8 none, Cond.fieldLink RX6 65 "SpaceWallsModel" "nextMany" "I"]
def wsX6_way_r3 : List Cond := [Cond.fieldLink RX6 28 "SpaceWallsModel" "next" "[J", Cond.fieldLink RX6 31 "SpaceWallsModel" "nextEven" "[Z", Cond.methodLink RX6 68 yX6_puts, Cond.instanceMethod yX6_puts, Cond.selects RX6 yX6_puts yX6_puts, Cond.code yX6_puts cX6_puts 9 none, Cond.methodLink RX6 72 yX6_size, Cond.static yX6_size, Cond.code yX6_size cX6_size 2 (some .long), Cond.methodLink RX6 45 yX6_in, Cond.static yX6_in, Cond.code yX6_in cX6_in 3 (some .boolean), Cond.methodLink RX6 103 yX6_onWalls, Cond.instanceMethod yX6_onWalls, Cond.selects RX6 yX6_onWalls yX6_onWalls, Cond.code yX6_onWalls cX6_onWalls 4 (some .int), Cond.methodLink RX6 134 yX6_parted, Cond.instanceMethod yX6_parted, Cond.selects RX6 yX6_parted yX6_parted, Cond.code yX6_parted cX6_parted 5 (some .int), Cond.methodLink RX6 137 yX6_bits, Cond.static yX6_bits, Cond.code yX6_bits cX6_bits 3 (some .int)]
def wsX6_way : List Cond := .code yX6_way cX6_way 3 (some .int) :: ((wsX6_way_r1 ++ (wsX6_way_r2 ++ wsX6_way_r3)) ++ wsX60)
def wsX6_step_r1 : List Cond := [Cond.fieldLink RX6 49 "SpaceWallsModel" "many" "I", Cond.methodLink RX6 113 yX6_isRoom, Cond.instanceMethod yX6_isRoom, Cond.selects RX6 yX6_isRoom yX6_isRoom, Cond.initialized RX6, Cond.code yX6_isRoom cX6_isRoom 2 (some .boolean), Cond.methodLink RX6 100 yX6_isFace, Cond.instanceMethod yX6_isFace, Cond.selects RX6 yX6_isFace yX6_isFace, Cond.code yX6_isFace cX6_isFace 2 (some .boolean), Cond.fieldLink RX6 13 "SpaceWallsModel" "isFace" "[Z", Cond.methodLink RX6 94 yX6_works, Cond.instanceMethod yX6_works, Cond.selects RX6 yX6_works yX6_works, Cond.code yX6_works cX6_works 5 none, Cond.fieldLink RX6 17 "SpaceWallsModel" "isOld" "Z", Cond.methodLink RX6 56 yX6_power, Cond.static yX6_power, Cond.code yX6_power cX6_power 3 (some .int), Cond.methodLink RX6 90 yX6_isThere, Cond.instanceMethod yX6_isThere, Cond.selects RX6 yX6_isThere yX6_isThere, Cond.code yX6_isThere cX6_isThere 6 (some .boolean), Cond.fieldLink RX6 37 "SpaceWallsModel" "wide" "I"]
def wsX6_step_r2 : List Cond := [Cond.fieldLink RX6 62 "SpaceWallsModel" "sumMany" "I", Cond.fieldLink RX6 21 "SpaceWallsModel" "sums" "[J", Cond.fieldLink RX6 25 "SpaceWallsModel" "isEven" "[Z", Cond.methodLink RX6 76 yX6_begins, Cond.instanceMethod yX6_begins, Cond.selects RX6 yX6_begins yX6_begins, Cond.code yX6_begins cX6_begins 1 none, Cond.methodLink RX6 79 yX6_sign, Cond.static yX6_sign, Cond.code yX6_sign cX6_sign 2 (some .int), Cond.methodLink RX6 82 yX6_adds, Cond.instanceMethod yX6_adds, Cond.selects RX6 yX6_adds yX6_adds, Cond.code yX6_adds cX6_adds 4 none, Cond.methodLink RX6 41 yX6_at, Cond.instanceMethod yX6_at, Cond.selects RX6 yX6_at yX6_at, Cond.code yX6_at cX6_at 3 (some .int), Cond.fieldLink RX6 9 "SpaceWallsModel" "walls" "[I", Cond.methodLink RX6 86 yX6_takesOut, Cond.instanceMethod yX6_takesOut, Cond.selects RX6 yX6_takesOut yX6_takesOut, Cond.code yX6_takesOut cX6_takesOut 8 none, Cond.fieldLink RX6 65 "SpaceWallsModel" "nextMany" "I"]
def wsX6_step_r3 : List Cond := [Cond.fieldLink RX6 28 "SpaceWallsModel" "next" "[J", Cond.fieldLink RX6 31 "SpaceWallsModel" "nextEven" "[Z", Cond.methodLink RX6 68 yX6_puts, Cond.instanceMethod yX6_puts, Cond.selects RX6 yX6_puts yX6_puts, Cond.code yX6_puts cX6_puts 9 none, Cond.methodLink RX6 72 yX6_size, Cond.static yX6_size, Cond.code yX6_size cX6_size 2 (some .long), Cond.methodLink RX6 45 yX6_in, Cond.static yX6_in, Cond.code yX6_in cX6_in 3 (some .boolean), Cond.methodLink RX6 103 yX6_onWalls, Cond.instanceMethod yX6_onWalls, Cond.selects RX6 yX6_onWalls yX6_onWalls, Cond.code yX6_onWalls cX6_onWalls 4 (some .int), Cond.methodLink RX6 134 yX6_parted, Cond.instanceMethod yX6_parted, Cond.selects RX6 yX6_parted yX6_parted, Cond.code yX6_parted cX6_parted 5 (some .int), Cond.methodLink RX6 140 yX6_walls, Cond.instanceMethod yX6_walls, Cond.selects RX6 yX6_walls yX6_walls, Cond.code yX6_walls cX6_walls 4 (some .int)]
def wsX6_step_r4 : List Cond := [Cond.methodLink RX6 131 yX6_across, Cond.static yX6_across, Cond.code yX6_across cX6_across 2 (some .int)]
def wsX6_step : List Cond := .code yX6_step cX6_step 5 (some .int) :: ((wsX6_step_r1 ++ (wsX6_step_r2 ++ (wsX6_step_r3 ++ wsX6_step_r4))) ++ wsX60)
def wsX6_far_r1 : List Cond := [Cond.fieldLink RX6 49 "SpaceWallsModel" "many" "I", Cond.methodLink RX6 56 yX6_power, Cond.static yX6_power, Cond.initialized RX6, Cond.code yX6_power cX6_power 3 (some .int), Cond.methodLink RX6 113 yX6_isRoom, Cond.instanceMethod yX6_isRoom, Cond.selects RX6 yX6_isRoom yX6_isRoom, Cond.code yX6_isRoom cX6_isRoom 2 (some .boolean), Cond.methodLink RX6 100 yX6_isFace, Cond.instanceMethod yX6_isFace, Cond.selects RX6 yX6_isFace yX6_isFace, Cond.code yX6_isFace cX6_isFace 2 (some .boolean), Cond.fieldLink RX6 13 "SpaceWallsModel" "isFace" "[Z", Cond.methodLink RX6 94 yX6_works, Cond.instanceMethod yX6_works, Cond.selects RX6 yX6_works yX6_works, Cond.code yX6_works cX6_works 5 none, Cond.fieldLink RX6 17 "SpaceWallsModel" "isOld" "Z", Cond.methodLink RX6 90 yX6_isThere, Cond.instanceMethod yX6_isThere, Cond.selects RX6 yX6_isThere yX6_isThere, Cond.code yX6_isThere cX6_isThere 6 (some .boolean), Cond.fieldLink RX6 37 "SpaceWallsModel" "wide" "I"]
def wsX6_far_r2 : List Cond := [Cond.fieldLink RX6 62 "SpaceWallsModel" "sumMany" "I", Cond.fieldLink RX6 21 "SpaceWallsModel" "sums" "[J", Cond.fieldLink RX6 25 "SpaceWallsModel" "isEven" "[Z", Cond.methodLink RX6 76 yX6_begins, Cond.instanceMethod yX6_begins, Cond.selects RX6 yX6_begins yX6_begins, Cond.code yX6_begins cX6_begins 1 none, Cond.methodLink RX6 79 yX6_sign, Cond.static yX6_sign, Cond.code yX6_sign cX6_sign 2 (some .int), Cond.methodLink RX6 82 yX6_adds, Cond.instanceMethod yX6_adds, Cond.selects RX6 yX6_adds yX6_adds, Cond.code yX6_adds cX6_adds 4 none, Cond.methodLink RX6 41 yX6_at, Cond.instanceMethod yX6_at, Cond.selects RX6 yX6_at yX6_at, Cond.code yX6_at cX6_at 3 (some .int), Cond.fieldLink RX6 9 "SpaceWallsModel" "walls" "[I", Cond.methodLink RX6 86 yX6_takesOut, Cond.instanceMethod yX6_takesOut, Cond.selects RX6 yX6_takesOut yX6_takesOut, Cond.code yX6_takesOut cX6_takesOut 8 none, Cond.fieldLink RX6 65 "SpaceWallsModel" "nextMany" "I"]
def wsX6_far_r3 : List Cond := [Cond.fieldLink RX6 28 "SpaceWallsModel" "next" "[J", Cond.fieldLink RX6 31 "SpaceWallsModel" "nextEven" "[Z", Cond.methodLink RX6 68 yX6_puts, Cond.instanceMethod yX6_puts, Cond.selects RX6 yX6_puts yX6_puts, Cond.code yX6_puts cX6_puts 9 none, Cond.methodLink RX6 72 yX6_size, Cond.static yX6_size, Cond.code yX6_size cX6_size 2 (some .long), Cond.methodLink RX6 45 yX6_in, Cond.static yX6_in, Cond.code yX6_in cX6_in 3 (some .boolean), Cond.methodLink RX6 103 yX6_onWalls, Cond.instanceMethod yX6_onWalls, Cond.selects RX6 yX6_onWalls yX6_onWalls, Cond.code yX6_onWalls cX6_onWalls 4 (some .int), Cond.methodLink RX6 134 yX6_parted, Cond.instanceMethod yX6_parted, Cond.selects RX6 yX6_parted yX6_parted, Cond.code yX6_parted cX6_parted 5 (some .int), Cond.methodLink RX6 137 yX6_bits, Cond.static yX6_bits, Cond.code yX6_bits cX6_bits 3 (some .int)]
def wsX6_far : List Cond := .code yX6_far cX6_far 5 (some .int) :: ((wsX6_far_r1 ++ (wsX6_far_r2 ++ wsX6_far_r3)) ++ wsX60)
def wsX6_left : List Cond := .code yX6_left cX6_left 10 (some .int) :: ([.fieldLink RX6 37 "SpaceWallsModel" "wide" "I", .fieldLink RX6 49 "SpaceWallsModel" "many" "I", .methodLink RX6 45 yX6_in, .static yX6_in, .initialized RX6, .code yX6_in cX6_in 3 (some .boolean), .methodLink RX6 41 yX6_at, .instanceMethod yX6_at, .selects RX6 yX6_at yX6_at, .code yX6_at cX6_at 3 (some .int), .fieldLink RX6 9 "SpaceWallsModel" "walls" "[I"] ++ wsX60)
def wsX6_count_r1 : List Cond := [Cond.fieldLink RX6 37 "SpaceWallsModel" "wide" "I", Cond.fieldLink RX6 49 "SpaceWallsModel" "many" "I", Cond.methodLink RX6 56 yX6_power, Cond.static yX6_power, Cond.initialized RX6, Cond.code yX6_power cX6_power 3 (some .int), Cond.methodLink RX6 113 yX6_isRoom, Cond.instanceMethod yX6_isRoom, Cond.selects RX6 yX6_isRoom yX6_isRoom, Cond.code yX6_isRoom cX6_isRoom 2 (some .boolean), Cond.methodLink RX6 100 yX6_isFace, Cond.instanceMethod yX6_isFace, Cond.selects RX6 yX6_isFace yX6_isFace, Cond.code yX6_isFace cX6_isFace 2 (some .boolean), Cond.fieldLink RX6 13 "SpaceWallsModel" "isFace" "[Z", Cond.methodLink RX6 94 yX6_works, Cond.instanceMethod yX6_works, Cond.selects RX6 yX6_works yX6_works, Cond.code yX6_works cX6_works 5 none, Cond.fieldLink RX6 17 "SpaceWallsModel" "isOld" "Z", Cond.methodLink RX6 90 yX6_isThere, Cond.instanceMethod yX6_isThere, Cond.selects RX6 yX6_isThere yX6_isThere, Cond.code yX6_isThere cX6_isThere 6 (some .boolean)]
def wsX6_count_r2 : List Cond := [Cond.fieldLink RX6 62 "SpaceWallsModel" "sumMany" "I", Cond.fieldLink RX6 21 "SpaceWallsModel" "sums" "[J", Cond.fieldLink RX6 25 "SpaceWallsModel" "isEven" "[Z", Cond.methodLink RX6 76 yX6_begins, Cond.instanceMethod yX6_begins, Cond.selects RX6 yX6_begins yX6_begins, Cond.code yX6_begins cX6_begins 1 none, Cond.methodLink RX6 79 yX6_sign, Cond.static yX6_sign, Cond.code yX6_sign cX6_sign 2 (some .int), Cond.methodLink RX6 82 yX6_adds, Cond.instanceMethod yX6_adds, Cond.selects RX6 yX6_adds yX6_adds, Cond.code yX6_adds cX6_adds 4 none, Cond.methodLink RX6 41 yX6_at, Cond.instanceMethod yX6_at, Cond.selects RX6 yX6_at yX6_at, Cond.code yX6_at cX6_at 3 (some .int), Cond.fieldLink RX6 9 "SpaceWallsModel" "walls" "[I", Cond.methodLink RX6 86 yX6_takesOut, Cond.instanceMethod yX6_takesOut, Cond.selects RX6 yX6_takesOut yX6_takesOut, Cond.code yX6_takesOut cX6_takesOut 8 none, Cond.fieldLink RX6 65 "SpaceWallsModel" "nextMany" "I"]
def wsX6_count_r3 : List Cond := [Cond.fieldLink RX6 28 "SpaceWallsModel" "next" "[J", Cond.fieldLink RX6 31 "SpaceWallsModel" "nextEven" "[Z", Cond.methodLink RX6 68 yX6_puts, Cond.instanceMethod yX6_puts, Cond.selects RX6 yX6_puts yX6_puts, Cond.code yX6_puts cX6_puts 9 none, Cond.methodLink RX6 72 yX6_size, Cond.static yX6_size, Cond.code yX6_size cX6_size 2 (some .long), Cond.methodLink RX6 45 yX6_in, Cond.static yX6_in, Cond.code yX6_in cX6_in 3 (some .boolean), Cond.methodLink RX6 103 yX6_onWalls, Cond.instanceMethod yX6_onWalls, Cond.selects RX6 yX6_onWalls yX6_onWalls, Cond.code yX6_onWalls cX6_onWalls 4 (some .int), Cond.methodLink RX6 97 yX6_rank, Cond.instanceMethod yX6_rank, Cond.selects RX6 yX6_rank yX6_rank, Cond.code yX6_rank cX6_rank 13 (some .int), Cond.fieldLink RX6 34 "SpaceWallsModel" "table" "[J"]
def wsX6_count : List Cond := .code yX6_count cX6_count 4 (some .int) :: ((wsX6_count_r1 ++ (wsX6_count_r2 ++ wsX6_count_r3)) ++ wsX60)
def wsJ9_abs_0f7a4 : List Cond := .code yJ9_abs_0f7a4 cJ9_abs_0f7a4 1 (some .int) :: ([])
def wsJ9_max_7cf53 : List Cond := .code yJ9_max_7cf53 cJ9_max_7cf53 2 (some .int) :: ([])
def wsJ9_min_7cf53 : List Cond := .code yJ9_min_7cf53 cJ9_min_7cf53 2 (some .int) :: ([])
def wsL_cell : List Cond := .code yL_cell cL_cell 2 (some .int) :: ([])
def wsL_law_r1 : List Cond := [Cond.classLink RL 7 RX5, Cond.instantiable RX5 5, Cond.initialized RX5, Cond.classLink RL 18 RX6, Cond.instantiable RX6 12, Cond.initialized RX6, Cond.methodLink RL 9 yL_cell, Cond.static yL_cell, Cond.initialized RL, Cond.code yL_cell cL_cell 2 (some .int), Cond.methodLink RL 15 yX5_init, Cond.instanceMethod yX5_init, Cond.code yX5_init cX5_init 2 none, Cond.methodLink RX5 1 objectInit, Cond.instanceMethod objectInit, Cond.code objectInit ⟨#[0xb1]⟩ 1 none, Cond.classLink RX5 7 RX3, Cond.instantiable RX3 7, Cond.initialized RX3, Cond.methodLink RX5 11 Lib.Math.min.name, Cond.static Lib.Math.min.name, Cond.initialized "java/lang/Math", Cond.code Lib.Math.min.name Lib.Math.min.code 2 (some .int), Cond.methodLink RX5 17 Lib.Math.max.name]
def wsL_law_r2 : List Cond := [Cond.static Lib.Math.max.name, Cond.code Lib.Math.max.name Lib.Math.max.code 2 (some .int), Cond.fieldLink RX5 23 "SpaceWalls" "planes" "LSpaceWalls$Planes;", Cond.classLink RX5 27 RX2, Cond.instantiable RX2 7, Cond.initialized RX2, Cond.fieldLink RX5 32 "SpaceWalls" "heaps" "LSpaceWalls$Heaps;", Cond.classLink RX5 36 RX1, Cond.instantiable RX1 13, Cond.initialized RX1, Cond.fieldLink RX5 41 "SpaceWalls" "cut" "LSpaceWalls$Cut;", Cond.classLink RX5 45 RX4, Cond.instantiable RX4 2, Cond.initialized RX4, Cond.fieldLink RX5 48 "SpaceWalls" "counter" "LSpaceWalls$PrimeCounter;", Cond.fieldLink RX5 52 "SpaceWalls" "fresh" "Z", Cond.methodLink RX5 20 yX3_init, Cond.instanceMethod yX3_init, Cond.code yX3_init cX3_init 4 none, Cond.methodLink RX3 3 objectInit, Cond.arrayClass .int, Cond.fieldLink RX3 9 "SpaceWalls$Planes" "a" "[I", Cond.fieldLink RX3 15 "SpaceWalls$Planes" "b" "[I", Cond.fieldLink RX3 18 "SpaceWalls$Planes" "c" "[I"]
def wsL_law_r3 : List Cond := [Cond.fieldLink RX3 21 "SpaceWalls$Planes" "e" "[I", Cond.fieldLink RX3 24 "SpaceWalls$Planes" "threes" "[I", Cond.fieldLink RX3 27 "SpaceWalls$Planes" "numbers" "I", Cond.fieldLink RX3 31 "SpaceWalls$Planes" "size" "I", Cond.methodLink RX5 29 yX2_init, Cond.instanceMethod yX2_init, Cond.code yX2_init cX2_init 2 none, Cond.methodLink RX2 3 objectInit, Cond.fieldLink RX2 9 "SpaceWalls$Heaps" "rank" "[I", Cond.arrayClass .boolean, Cond.fieldLink RX2 15 "SpaceWalls$Heaps" "common" "[Z", Cond.fieldLink RX2 19 "SpaceWalls$Heaps" "keyX" "[I", Cond.fieldLink RX2 22 "SpaceWalls$Heaps" "keyY" "[I", Cond.fieldLink RX2 25 "SpaceWalls$Heaps" "keyZ" "[I", Cond.classLink RX2 28 RX0, Cond.instantiable RX0 3, Cond.initialized RX0, Cond.fieldLink RX2 31 "SpaceWalls$Heaps" "key" "LSpaceWalls$Arrow;", Cond.fieldLink RX2 35 "SpaceWalls$Heaps" "planes" "LSpaceWalls$Planes;", Cond.instanceMethod yX0_init, Cond.code yX0_init cX0_init 1 none, Cond.methodLink RX0 1 objectInit, Cond.methodLink RX5 38 yX1_init, Cond.instanceMethod yX1_init]
def wsL_law_r4 : List Cond := [Cond.code yX1_init cX1_init 3 none, Cond.methodLink RX1 3 objectInit, Cond.fieldLink RX1 9 "SpaceWalls$Cut" "marks" "[I", Cond.fieldLink RX1 15 "SpaceWalls$Cut" "reached" "[I", Cond.fieldLink RX1 18 "SpaceWalls$Cut" "rows" "[I", Cond.fieldLink RX1 21 "SpaceWalls$Cut" "widths" "[I", Cond.fieldLink RX1 24 "SpaceWalls$Cut" "lineAbove" "[I", Cond.fieldLink RX1 27 "SpaceWalls$Cut" "lineBelow" "[I", Cond.classLink RX1 30 RX0, Cond.fieldLink RX1 33 "SpaceWalls$Cut" "first" "LSpaceWalls$Arrow;", Cond.fieldLink RX1 37 "SpaceWalls$Cut" "second" "LSpaceWalls$Arrow;", Cond.fieldLink RX1 40 "SpaceWalls$Cut" "third" "LSpaceWalls$Arrow;", Cond.fieldLink RX1 43 "SpaceWalls$Cut" "planes" "LSpaceWalls$Planes;", Cond.fieldLink RX1 47 "SpaceWalls$Cut" "heaps" "LSpaceWalls$Heaps;", Cond.fieldLink RX1 51 "SpaceWalls$Cut" "found" "I", Cond.fieldLink RX1 55 "SpaceWalls$Cut" "lines" "I", Cond.methodLink RX5 47 yX4_init, Cond.instanceMethod yX4_init, Cond.code yX4_init cX4_init 2 none, Cond.methodLink RX4 3 objectInit, Cond.fieldLink RX4 9 "SpaceWalls$PrimeCounter" "turned" "[I", Cond.fieldLink RX4 15 "SpaceWalls$PrimeCounter" "planes" "LSpaceWalls$Planes;", Cond.methodLink RL 20 yX6_init, Cond.instanceMethod yX6_init]
def wsL_law_r5 : List Cond := [Cond.code yX6_init cX6_init 2 none, Cond.methodLink RX6 1 objectInit, Cond.fieldLink RX6 9 "SpaceWallsModel" "walls" "[I", Cond.fieldLink RX6 13 "SpaceWallsModel" "isFace" "[Z", Cond.fieldLink RX6 17 "SpaceWallsModel" "isOld" "Z", Cond.arrayClass .long, Cond.fieldLink RX6 21 "SpaceWallsModel" "sums" "[J", Cond.fieldLink RX6 25 "SpaceWallsModel" "isEven" "[Z", Cond.fieldLink RX6 28 "SpaceWallsModel" "next" "[J", Cond.fieldLink RX6 31 "SpaceWallsModel" "nextEven" "[Z", Cond.fieldLink RX6 34 "SpaceWallsModel" "table" "[J", Cond.fieldLink RX6 37 "SpaceWallsModel" "wide" "I", Cond.methodLink RL 21 yX5_wall, Cond.instanceMethod yX5_wall, Cond.selects RX5 yX5_wall yX5_wall, Cond.code yX5_wall cX5_wall 5 (some .int), Cond.methodLink RX5 60 yX3_isPlane, Cond.instanceMethod yX3_isPlane, Cond.selects RX3 yX3_isPlane yX3_isPlane, Cond.code yX3_isPlane cX3_isPlane 5 (some .boolean), Cond.methodLink RX3 37 yX3_isWithin, Cond.static yX3_isWithin, Cond.code yX3_isWithin cX3_isWithin 2 (some .boolean), Cond.methodLink RX5 64 yX3_isThere]
def wsL_law_r6 : List Cond := [Cond.instanceMethod yX3_isThere, Cond.selects RX3 yX3_isThere yX3_isThere, Cond.code yX3_isThere cX3_isThere 6 (some .boolean), Cond.methodLink RX5 67 yX3_append, Cond.instanceMethod yX3_append, Cond.selects RX3 yX3_append yX3_append, Cond.code yX3_append cX3_append 5 none, Cond.methodLink RL 25 yX6_wall, Cond.instanceMethod yX6_wall, Cond.selects RX6 yX6_wall yX6_wall, Cond.code yX6_wall cX6_wall 6 (some .int), Cond.fieldLink RX6 49 "SpaceWallsModel" "many" "I", Cond.methodLink RX6 45 yX6_in, Cond.static yX6_in, Cond.code yX6_in cX6_in 3 (some .boolean), Cond.methodLink RX6 52 yX6_isSame, Cond.instanceMethod yX6_isSame, Cond.selects RX6 yX6_isSame yX6_isSame, Cond.code yX6_isSame cX6_isSame 9 (some .boolean), Cond.methodLink RX6 41 yX6_at, Cond.instanceMethod yX6_at, Cond.selects RX6 yX6_at yX6_at, Cond.code yX6_at cX6_at 3 (some .int), Cond.methodLink RL 26 yX5_take]
def wsL_law_r7 : List Cond := [Cond.instanceMethod yX5_take, Cond.selects RX5 yX5_take yX5_take, Cond.code yX5_take cX5_take 2 (some .boolean), Cond.methodLink RX5 71 yX3_holds, Cond.instanceMethod yX3_holds, Cond.selects RX3 yX3_holds yX3_holds, Cond.code yX3_holds cX3_holds 2 (some .boolean), Cond.methodLink RX5 75 yX3_drop, Cond.instanceMethod yX3_drop, Cond.selects RX3 yX3_drop yX3_drop, Cond.code yX3_drop cX3_drop 3 none, Cond.methodLink RX3 41 yX3_holds, Cond.methodLink RL 30 yX6_take, Cond.instanceMethod yX6_take, Cond.selects RX6 yX6_take yX6_take, Cond.code yX6_take cX6_take 3 (some .boolean), Cond.methodLink RL 31 yX5_told, Cond.instanceMethod yX5_told, Cond.selects RX5 yX5_told yX5_told, Cond.code yX5_told cX5_told 3 (some .int), Cond.methodLink RL 35 yX6_told, Cond.instanceMethod yX6_told, Cond.selects RX6 yX6_told yX6_told, Cond.code yX6_told cX6_told 3 (some .int)]
def wsL_law_r8 : List Cond := [Cond.methodLink RL 36 yX5_row, Cond.instanceMethod yX5_row, Cond.selects RX5 yX5_row yX5_row, Cond.code yX5_row cX5_row 6 (some .int), Cond.methodLink RX5 94 yX5_isTooFar, Cond.static yX5_isTooFar, Cond.code yX5_isTooFar cX5_isTooFar 1 (some .boolean), Cond.constant RX5 166 (1000000), Cond.constant RX5 167 (-1000000), Cond.methodLink RX5 97 yX3_signs, Cond.instanceMethod yX3_signs, Cond.selects RX3 yX3_signs yX3_signs, Cond.code yX3_signs cX3_signs 8 (some .int), Cond.methodLink RX5 101 yX3_rowOf, Cond.instanceMethod yX3_rowOf, Cond.selects RX3 yX3_rowOf yX3_rowOf, Cond.code yX3_rowOf cX3_rowOf 2 (some .int), Cond.static yX5_onMask, Cond.code yX5_onMask cX5_onMask 1 (some .int), Cond.static yX5_aboveMask, Cond.code yX5_aboveMask cX5_aboveMask 1 (some .int), Cond.methodLink RL 40 yX6_row, Cond.instanceMethod yX6_row, Cond.selects RX6 yX6_row yX6_row]
def wsL_law_r9 : List Cond := [Cond.code yX6_row cX6_row 8 (some .int), Cond.constant RX6 60 (-1000000), Cond.constant RX6 61 (1000000), Cond.methodLink RX6 56 yX6_power, Cond.static yX6_power, Cond.code yX6_power cX6_power 3 (some .int), Cond.methodLink RL 41 yX5_faces, Cond.instanceMethod yX5_faces, Cond.selects RX5 yX5_faces yX5_faces, Cond.code yX5_faces cX5_faces 2 (some .int), Cond.methodLink RX5 105 yX5_freshCut, Cond.instanceMethod yX5_freshCut, Cond.selects RX5 yX5_freshCut yX5_freshCut, Cond.code yX5_freshCut cX5_freshCut 1 (some (.object "SpaceWalls$Cut")), Cond.methodLink RX5 163 yX1_cutAnew, Cond.instanceMethod yX1_cutAnew, Cond.selects RX1 yX1_cutAnew yX1_cutAnew, Cond.code yX1_cutAnew cX1_cutAnew 2 none, Cond.methodLink RX1 58 yJ7_fill_53178, Cond.static yJ7_fill_53178, Cond.initialized RJ7, Cond.code yJ7_fill_53178 cJ7_fill_53178 4 none, Cond.methodLink RX1 64 yX2_forgetCommon, Cond.instanceMethod yX2_forgetCommon]
def wsL_law_r10 : List Cond := [Cond.selects RX2 yX2_forgetCommon yX2_forgetCommon, Cond.code yX2_forgetCommon cX2_forgetCommon 2 none, Cond.methodLink RX1 69 yX2_rankAnew, Cond.instanceMethod yX2_rankAnew, Cond.selects RX2 yX2_rankAnew yX2_rankAnew, Cond.code yX2_rankAnew cX2_rankAnew 3 none, Cond.methodLink RX2 45 yX2_rankWith, Cond.instanceMethod yX2_rankWith, Cond.selects RX2 yX2_rankWith yX2_rankWith, Cond.code yX2_rankWith cX2_rankWith 6 none, Cond.methodLink RX2 49 yX0_set, Cond.instanceMethod yX0_set, Cond.selects RX0 yX0_set yX0_set, Cond.code yX0_set cX0_set 4 none, Cond.fieldLink RX0 29 "SpaceWalls$Arrow" "x" "I", Cond.fieldLink RX0 33 "SpaceWalls$Arrow" "y" "I", Cond.fieldLink RX0 36 "SpaceWalls$Arrow" "z" "I", Cond.methodLink RX2 62 yX0_crossWith, Cond.instanceMethod yX0_crossWith, Cond.selects RX0 yX0_crossWith yX0_crossWith, Cond.code yX0_crossWith cX0_crossWith 6 none, Cond.methodLink RX0 19 yX0_set, Cond.methodLink RX2 66 yX0_isNothing, Cond.instanceMethod yX0_isNothing]
def wsL_law_r11 : List Cond := [Cond.selects RX0 yX0_isNothing yX0_isNothing, Cond.code yX0_isNothing cX0_isNothing 1 (some .boolean), Cond.methodLink RX2 70 yX0_climb, Cond.instanceMethod yX0_climb, Cond.selects RX0 yX0_climb yX0_climb, Cond.code yX0_climb cX0_climb 3 (some .int), Cond.methodLink RX1 72 yX1_crossPlanes, Cond.instanceMethod yX1_crossPlanes, Cond.selects RX1 yX1_crossPlanes yX1_crossPlanes, Cond.code yX1_crossPlanes cX1_crossPlanes 5 none, Cond.methodLink RX1 85 yX2_rankOfAll, Cond.instanceMethod yX2_rankOfAll, Cond.selects RX2 yX2_rankOfAll yX2_rankOfAll, Cond.code yX2_rankOfAll cX2_rankOfAll 1 (some .int), Cond.methodLink RX1 94 yX3_indexOf, Cond.instanceMethod yX3_indexOf, Cond.selects RX3 yX3_indexOf yX3_indexOf, Cond.code yX3_indexOf cX3_indexOf 2 (some .int), Cond.methodLink RX3 45 Lib.Math.min.name, Cond.methodLink RX1 98 yX0_alongBoth, Cond.instanceMethod yX0_alongBoth, Cond.selects RX0 yX0_alongBoth yX0_alongBoth, Cond.code yX0_alongBoth cX0_alongBoth 4 none, Cond.methodLink RX0 25 yX0_crossWith]
def wsL_law_r12 : List Cond := [Cond.methodLink RX1 102 yX0_isNothing, Cond.methodLink RX1 106 yX1_noteLine, Cond.instanceMethod yX1_noteLine, Cond.selects RX1 yX1_noteLine yX1_noteLine, Cond.code yX1_noteLine cX1_noteLine 5 none, Cond.methodLink RX1 122 yX3_signs, Cond.methodLink RX1 109 yX1_noteCorner, Cond.instanceMethod yX1_noteCorner, Cond.selects RX1 yX1_noteCorner yX1_noteCorner, Cond.code yX1_noteCorner cX1_noteCorner 12 none, Cond.methodLink RX1 132 yX0_climb, Cond.methodLink RX1 139 yX1_reach, Cond.instanceMethod yX1_reach, Cond.selects RX1 yX1_reach yX1_reach, Cond.code yX1_reach cX1_reach 3 none, Cond.methodLink RX1 142 yX3_rowOf, Cond.methodLink RX1 145 yX1_isMarked, Cond.instanceMethod yX1_isMarked, Cond.selects RX1 yX1_isMarked yX1_isMarked, Cond.code yX1_isMarked cX1_isMarked 2 (some .boolean), Cond.methodLink RX1 75 yX1_moveFrom, Cond.instanceMethod yX1_moveFrom, Cond.selects RX1 yX1_moveFrom yX1_moveFrom, Cond.code yX1_moveFrom cX1_moveFrom 6 none]
def wsL_law_r13 : List Cond := [Cond.methodLink RX1 79 yX1_sortRows, Cond.instanceMethod yX1_sortRows, Cond.selects RX1 yX1_sortRows yX1_sortRows, Cond.code yX1_sortRows cX1_sortRows 3 none, Cond.static yX5_maskOf, Cond.code yX5_maskOf cX5_maskOf 5 (some .int), Cond.methodLink RX1 82 yX2_shareDown, Cond.instanceMethod yX2_shareDown, Cond.selects RX2 yX2_shareDown yX2_shareDown, Cond.code yX2_shareDown cX2_shareDown 3 none, Cond.methodLink RX5 109 yX1_countOfWidth, Cond.instanceMethod yX1_countOfWidth, Cond.selects RX1 yX1_countOfWidth yX1_countOfWidth, Cond.code yX1_countOfWidth cX1_countOfWidth 4 (some .int), Cond.methodLink RL 45 yX6_faces, Cond.instanceMethod yX6_faces, Cond.selects RX6 yX6_faces yX6_faces, Cond.code yX6_faces cX6_faces 4 (some .int), Cond.methodLink RX6 106 yX6_width, Cond.instanceMethod yX6_width, Cond.selects RX6 yX6_width yX6_width, Cond.code yX6_width cX6_width 2 (some .int), Cond.methodLink RX6 100 yX6_isFace, Cond.instanceMethod yX6_isFace]
def wsL_law_r14 : List Cond := [Cond.selects RX6 yX6_isFace yX6_isFace, Cond.code yX6_isFace cX6_isFace 2 (some .boolean), Cond.methodLink RX6 94 yX6_works, Cond.instanceMethod yX6_works, Cond.selects RX6 yX6_works yX6_works, Cond.code yX6_works cX6_works 5 none, Cond.methodLink RX6 90 yX6_isThere, Cond.instanceMethod yX6_isThere, Cond.selects RX6 yX6_isThere yX6_isThere, Cond.code yX6_isThere cX6_isThere 6 (some .boolean), Cond.fieldLink RX6 62 "SpaceWallsModel" "sumMany" "I", Cond.methodLink RX6 76 yX6_begins, Cond.instanceMethod yX6_begins, Cond.selects RX6 yX6_begins yX6_begins, Cond.code yX6_begins cX6_begins 1 none, Cond.methodLink RX6 79 yX6_sign, Cond.static yX6_sign, Cond.code yX6_sign cX6_sign 2 (some .int), Cond.methodLink RX6 82 yX6_adds, Cond.instanceMethod yX6_adds, Cond.selects RX6 yX6_adds yX6_adds, Cond.code yX6_adds cX6_adds 4 none, Cond.methodLink RX6 86 yX6_takesOut, Cond.instanceMethod yX6_takesOut]
def wsL_law_r15 : List Cond := [Cond.selects RX6 yX6_takesOut yX6_takesOut, Cond.code yX6_takesOut cX6_takesOut 8 none, Cond.fieldLink RX6 65 "SpaceWallsModel" "nextMany" "I", Cond.methodLink RX6 68 yX6_puts, Cond.instanceMethod yX6_puts, Cond.selects RX6 yX6_puts yX6_puts, Cond.code yX6_puts cX6_puts 9 none, Cond.methodLink RX6 72 yX6_size, Cond.static yX6_size, Cond.code yX6_size cX6_size 2 (some .long), Cond.methodLink RX6 103 yX6_onWalls, Cond.instanceMethod yX6_onWalls, Cond.selects RX6 yX6_onWalls yX6_onWalls, Cond.code yX6_onWalls cX6_onWalls 4 (some .int), Cond.methodLink RX6 97 yX6_rank, Cond.instanceMethod yX6_rank, Cond.selects RX6 yX6_rank yX6_rank, Cond.code yX6_rank cX6_rank 13 (some .int), Cond.methodLink RL 46 yX5_face, Cond.instanceMethod yX5_face, Cond.selects RX5 yX5_face yX5_face, Cond.code yX5_face cX5_face 3 (some .int), Cond.methodLink RX5 112 yX1_rowOfWidth, Cond.instanceMethod yX1_rowOfWidth]
def wsL_law_r16 : List Cond := [Cond.selects RX1 yX1_rowOfWidth yX1_rowOfWidth, Cond.code yX1_rowOfWidth cX1_rowOfWidth 5 (some .int), Cond.methodLink RL 49 yX6_face, Cond.instanceMethod yX6_face, Cond.selects RX6 yX6_face yX6_face, Cond.code yX6_face cX6_face 5 (some .int), Cond.methodLink RL 50 yX5_width, Cond.instanceMethod yX5_width, Cond.selects RX5 yX5_width yX5_width, Cond.code yX5_width cX5_width 3 (some .int), Cond.methodLink RX5 115 yX1_hasFace, Cond.instanceMethod yX1_hasFace, Cond.selects RX1 yX1_hasFace yX1_hasFace, Cond.code yX1_hasFace cX1_hasFace 2 (some .boolean), Cond.methodLink RX5 121 yX5_maskOf, Cond.methodLink RL 53 yX6_width, Cond.methodLink RL 54 yX5_bounded, Cond.instanceMethod yX5_bounded, Cond.selects RX5 yX5_bounded yX5_bounded, Cond.code yX5_bounded cX5_bounded 3 (some .boolean), Cond.methodLink RX5 124 yX1_hasRoom, Cond.instanceMethod yX1_hasRoom, Cond.selects RX1 yX1_hasRoom yX1_hasRoom, Cond.code yX1_hasRoom cX1_hasRoom 2 (some .boolean)]
def wsL_law_r17 : List Cond := [Cond.methodLink RX1 163 yX1_hasFace, Cond.methodLink RX5 127 yX2_rankOfAll, Cond.methodLink RX5 131 yX1_isOpen, Cond.instanceMethod yX1_isOpen, Cond.selects RX1 yX1_isOpen yX1_isOpen, Cond.code yX1_isOpen cX1_isOpen 5 (some .boolean), Cond.methodLink RL 57 yX6_bounded, Cond.instanceMethod yX6_bounded, Cond.selects RX6 yX6_bounded yX6_bounded, Cond.code yX6_bounded cX6_bounded 7 (some .boolean), Cond.methodLink RX6 113 yX6_isRoom, Cond.instanceMethod yX6_isRoom, Cond.selects RX6 yX6_isRoom yX6_isRoom, Cond.code yX6_isRoom cX6_isRoom 2 (some .boolean), Cond.methodLink RX6 116 yX6_leadsEither, Cond.instanceMethod yX6_leadsEither, Cond.selects RX6 yX6_leadsEither yX6_leadsEither, Cond.code yX6_leadsEither cX6_leadsEither 5 (some .boolean), Cond.methodLink RX6 109 yX6_leadsOn, Cond.instanceMethod yX6_leadsOn, Cond.selects RX6 yX6_leadsOn yX6_leadsOn, Cond.code yX6_leadsOn cX6_leadsOn 7 (some .boolean), Cond.methodLink RL 58 yX5_boundedRooms, Cond.instanceMethod yX5_boundedRooms]
def wsL_law_r18 : List Cond := [Cond.selects RX5 yX5_boundedRooms yX5_boundedRooms, Cond.code yX5_boundedRooms cX5_boundedRooms 3 (some .int), Cond.methodLink RX5 137 Lib.Math.abs.name, Cond.static Lib.Math.abs.name, Cond.code Lib.Math.abs.name Lib.Math.abs.code 1 (some .int), Cond.methodLink RX5 134 yX2_factor, Cond.instanceMethod yX2_factor, Cond.selects RX2 yX2_factor yX2_factor, Cond.code yX2_factor cX2_factor 5 (some .int), Cond.methodLink RX2 86 yJ6_bitCount_0f7a4, Cond.static yJ6_bitCount_0f7a4, Cond.initialized RJ6, Cond.code yJ6_bitCount_0f7a4 cJ6_bitCount_0f7a4 1 (some .int), Cond.constant RJ6 265 (1431655765), Cond.constant RJ6 266 (858993459), Cond.constant RJ6 267 (252645135), Cond.methodLink RL 62 yX6_boundedRooms, Cond.instanceMethod yX6_boundedRooms, Cond.selects RX6 yX6_boundedRooms yX6_boundedRooms, Cond.code yX6_boundedRooms cX6_boundedRooms 3 (some .int), Cond.methodLink RX6 119 yX6_bounded, Cond.methodLink RL 63 yX5_poly, Cond.instanceMethod yX5_poly, Cond.selects RX5 yX5_poly yX5_poly]
def wsL_law_r19 : List Cond := [Cond.code yX5_poly cX5_poly 2 (some .int), Cond.methodLink RL 66 yX6_poly, Cond.instanceMethod yX6_poly, Cond.selects RX6 yX6_poly yX6_poly, Cond.code yX6_poly cX6_poly 2 (some .int), Cond.methodLink RX6 128 yX6_polynomial, Cond.instanceMethod yX6_polynomial, Cond.selects RX6 yX6_polynomial yX6_polynomial, Cond.code yX6_polynomial cX6_polynomial 5 (some .int), Cond.methodLink RX6 122 yX6_meets, Cond.instanceMethod yX6_meets, Cond.selects RX6 yX6_meets yX6_meets, Cond.code yX6_meets cX6_meets 2 (some .boolean), Cond.methodLink RX6 125 yX6_odd, Cond.static yX6_odd, Cond.code yX6_odd cX6_odd 3 (some .int), Cond.methodLink RL 67 yX5_without, Cond.instanceMethod yX5_without, Cond.selects RX5 yX5_without yX5_without, Cond.code yX5_without cX5_without 3 (some .int), Cond.methodLink RL 70 yX6_without, Cond.instanceMethod yX6_without, Cond.selects RX6 yX6_without yX6_without, Cond.code yX6_without cX6_without 3 (some .int)]
def wsL_law_r20 : List Cond := [Cond.methodLink RL 71 yX5_on, Cond.instanceMethod yX5_on, Cond.selects RX5 yX5_on yX5_on, Cond.code yX5_on cX5_on 3 (some .int), Cond.methodLink RL 74 yX6_on, Cond.instanceMethod yX6_on, Cond.selects RX6 yX6_on yX6_on, Cond.code yX6_on cX6_on 8 (some .int), Cond.methodLink RL 75 yX5_walls, Cond.instanceMethod yX5_walls, Cond.selects RX5 yX5_walls yX5_walls, Cond.code yX5_walls cX5_walls 3 (some .int), Cond.methodLink RX5 140 yX1_wallsOf, Cond.instanceMethod yX1_wallsOf, Cond.selects RX1 yX1_wallsOf yX1_wallsOf, Cond.code yX1_wallsOf cX1_wallsOf 4 (some .int), Cond.static yX5_across, Cond.code yX5_across cX5_across 3 (some .int), Cond.fieldLink RX5 168 "SpaceWalls" "POWERS" "[I", Cond.methodLink RX1 169 yX1_hasRoom, Cond.methodLink RL 78 yX6_walls, Cond.instanceMethod yX6_walls, Cond.selects RX6 yX6_walls yX6_walls, Cond.code yX6_walls cX6_walls 4 (some .int)]
def wsL_law_r21 : List Cond := [Cond.methodLink RX6 131 yX6_across, Cond.static yX6_across, Cond.code yX6_across cX6_across 2 (some .int), Cond.methodLink RL 79 yX5_beside, Cond.instanceMethod yX5_beside, Cond.selects RX5 yX5_beside yX5_beside, Cond.code yX5_beside cX5_beside 5 (some .int), Cond.methodLink RX5 143 yX5_across, Cond.methodLink RL 82 yX6_beside, Cond.instanceMethod yX6_beside, Cond.selects RX6 yX6_beside yX6_beside, Cond.code yX6_beside cX6_beside 4 (some .int), Cond.methodLink RL 83 yX5_way, Cond.instanceMethod yX5_way, Cond.selects RX5 yX5_way yX5_way, Cond.code yX5_way cX5_way 4 (some .int), Cond.methodLink RX5 146 yX5_parting, Cond.static yX5_parting, Cond.code yX5_parting cX5_parting 2 (some .int), Cond.methodLink RX5 149 yJ6_bitCount_0f7a4, Cond.methodLink RL 86 yX6_way, Cond.instanceMethod yX6_way, Cond.selects RX6 yX6_way yX6_way, Cond.code yX6_way cX6_way 3 (some .int)]
def wsL_law_r22 : List Cond := [Cond.methodLink RX6 134 yX6_parted, Cond.instanceMethod yX6_parted, Cond.selects RX6 yX6_parted yX6_parted, Cond.code yX6_parted cX6_parted 5 (some .int), Cond.methodLink RX6 137 yX6_bits, Cond.static yX6_bits, Cond.code yX6_bits cX6_bits 3 (some .int), Cond.methodLink RL 87 yX5_step, Cond.instanceMethod yX5_step, Cond.selects RX5 yX5_step yX5_step, Cond.code yX5_step cX5_step 6 (some .int), Cond.methodLink RL 90 yX6_step, Cond.instanceMethod yX6_step, Cond.selects RX6 yX6_step yX6_step, Cond.code yX6_step cX6_step 5 (some .int), Cond.methodLink RX6 140 yX6_walls, Cond.methodLink RL 91 yX5_far, Cond.instanceMethod yX5_far, Cond.selects RX5 yX5_far yX5_far, Cond.code yX5_far cX5_far 1 (some .int), Cond.methodLink RL 94 yX6_far, Cond.instanceMethod yX6_far, Cond.selects RX6 yX6_far yX6_far, Cond.code yX6_far cX6_far 5 (some .int)]
def wsL_law_r23 : List Cond := [Cond.methodLink RL 95 yX5_left, Cond.instanceMethod yX5_left, Cond.selects RX5 yX5_left yX5_left, Cond.code yX5_left cX5_left 2 (some .int), Cond.methodLink RX5 154 yX5_isPrime, Cond.static yX5_isPrime, Cond.code yX5_isPrime cX5_isPrime 2 (some .boolean), Cond.methodLink RX5 157 yX4_countMissed, Cond.instanceMethod yX4_countMissed, Cond.selects RX4 yX4_countMissed yX4_countMissed, Cond.code yX4_countMissed cX4_countMissed 7 (some .int), Cond.methodLink RX4 28 yJ9_floorMod_7cf53, Cond.static yJ9_floorMod_7cf53, Cond.initialized RJ9, Cond.code yJ9_floorMod_7cf53 cJ9_floorMod_7cf53 3 (some .int), Cond.methodLink RX4 34 yX4_inverse, Cond.static yX4_inverse, Cond.code yX4_inverse cX4_inverse 3 (some .int), Cond.methodLink RX4 40 yX4_hits, Cond.instanceMethod yX4_hits, Cond.selects RX4 yX4_hits yX4_hits, Cond.code yX4_hits cX4_hits 7 (some .int), Cond.methodLink RX4 44 yJ6_bitCount_0f7a4, Cond.methodLink RL 98 yX6_left]
def wsL_law_r24 : List Cond := [Cond.instanceMethod yX6_left, Cond.selects RX6 yX6_left yX6_left, Cond.code yX6_left cX6_left 10 (some .int), Cond.methodLink RL 99 yX5_count, Cond.instanceMethod yX5_count, Cond.selects RX5 yX5_count yX5_count, Cond.code yX5_count cX5_count 2 (some .int), Cond.methodLink RL 102 yX6_count, Cond.instanceMethod yX6_count, Cond.selects RX6 yX6_count yX6_count, Cond.code yX6_count cX6_count 4 (some .int)]
def wsL_law : List Cond := (wsL_law_r1 ++ (wsL_law_r2 ++ (wsL_law_r3 ++ (wsL_law_r4 ++ (wsL_law_r5 ++ (wsL_law_r6 ++ (wsL_law_r7 ++ (wsL_law_r8 ++ (wsL_law_r9 ++ (wsL_law_r10 ++ (wsL_law_r11 ++ (wsL_law_r12 ++ (wsL_law_r13 ++ (wsL_law_r14 ++ (wsL_law_r15 ++ (wsL_law_r16 ++ (wsL_law_r17 ++ (wsL_law_r18 ++ (wsL_law_r19 ++ (wsL_law_r20 ++ (wsL_law_r21 ++ (wsL_law_r22 ++ (wsL_law_r23 ++ wsL_law_r24))))))))))))))))))))))) ++ wsX50 ++ wsX60 ++ wsX30 ++ wsX20 ++ wsX10 ++ wsX40 ++ wsX00 ++ ([] : List Cond)
end
section
theorem inJ6 : ∀ w ∈ wsJ60, w ∈ lw_tbl := by decide +kernel
theorem inJ9 : ∀ w ∈ wsJ90, w ∈ lw_tbl := by decide +kernel
theorem inJ7 : ∀ w ∈ wsJ70, w ∈ lw_tbl := by decide +kernel
theorem dX0_init_0 : decode cX0_init 0 = .ok (.aload_n 0, 1) := by decide +kernel
theorem dX0_init_1 : decode cX0_init 1 = .ok (.invokespecial 1, 3) := by decide +kernel
theorem dX0_init_4 : decode cX0_init 4 = .ok (.return_, 1) := by decide +kernel
set_option maxRecDepth 20000 in
theorem ggX0_alongBoth_X0_set : GoodIn wsX0_alongBoth wsX0_set := goodIn_r _ [5, 6, 7, 8, 20, 21, 22] (by decide +kernel) (by decide +kernel)
set_option maxRecDepth 20000 in
theorem gX0_alongBoth_X0_set : GoodIn wsX0_alongBoth (wsV RX0 19 RX0 yX0_set wsX0_set) := goodIn_app (goodIn_of _ (by decide +kernel)) ggX0_alongBoth_X0_set
set_option maxRecDepth 20000 in
theorem ggX0_alongBoth_X0_crossWith : GoodIn wsX0_alongBoth wsX0_crossWith := goodIn_r _ [12, 7, 8, 6, 1, 2, 3, 4, 5, 13, 14, 15, 16, 17, 18, 19, 20, 21, 22] (by decide +kernel) (by decide +kernel)
set_option maxRecDepth 20000 in
theorem gX0_alongBoth_X0_crossWith : GoodIn wsX0_alongBoth (wsV RX0 25 RX0 yX0_crossWith wsX0_crossWith) := goodIn_app (goodIn_of _ (by decide +kernel)) ggX0_alongBoth_X0_crossWith
theorem dX0_alongBoth_0 : decode cX0_alongBoth 0 = .ok (.aload_n 0, 1) := by decide +kernel
theorem dX0_alongBoth_1 : decode cX0_alongBoth 1 = .ok (.aload_n 1, 1) := by decide +kernel
theorem dX0_alongBoth_2 : decode cX0_alongBoth 2 = .ok (.getfield 7, 3) := by decide +kernel
theorem dX0_alongBoth_5 : decode cX0_alongBoth 5 = .ok (.iload_n 2, 1) := by decide +kernel
theorem dX0_alongBoth_6 : decode cX0_alongBoth 6 = .ok (.iaload, 1) := by decide +kernel
theorem dX0_alongBoth_7 : decode cX0_alongBoth 7 = .ok (.aload_n 1, 1) := by decide +kernel
theorem dX0_alongBoth_8 : decode cX0_alongBoth 8 = .ok (.getfield 13, 3) := by decide +kernel
theorem dX0_alongBoth_11 : decode cX0_alongBoth 11 = .ok (.iload_n 2, 1) := by decide +kernel
theorem dX0_alongBoth_12 : decode cX0_alongBoth 12 = .ok (.iaload, 1) := by decide +kernel
theorem dX0_alongBoth_13 : decode cX0_alongBoth 13 = .ok (.aload_n 1, 1) := by decide +kernel
theorem dX0_alongBoth_14 : decode cX0_alongBoth 14 = .ok (.getfield 16, 3) := by decide +kernel
theorem dX0_alongBoth_17 : decode cX0_alongBoth 17 = .ok (.iload_n 2, 1) := by decide +kernel
theorem dX0_alongBoth_18 : decode cX0_alongBoth 18 = .ok (.iaload, 1) := by decide +kernel
theorem dX0_alongBoth_19 : decode cX0_alongBoth 19 = .ok (.invokevirtual 19, 3) := by decide +kernel
theorem dX0_alongBoth_22 : decode cX0_alongBoth 22 = .ok (.aload_n 0, 1) := by decide +kernel
theorem dX0_alongBoth_23 : decode cX0_alongBoth 23 = .ok (.aload_n 1, 1) := by decide +kernel
theorem dX0_alongBoth_24 : decode cX0_alongBoth 24 = .ok (.iload_n 3, 1) := by decide +kernel
theorem dX0_alongBoth_25 : decode cX0_alongBoth 25 = .ok (.invokevirtual 25, 3) := by decide +kernel
theorem dX0_alongBoth_28 : decode cX0_alongBoth 28 = .ok (.return_, 1) := by decide +kernel
theorem dX0_set_0 : decode cX0_set 0 = .ok (.aload_n 0, 1) := by decide +kernel
theorem dX0_set_1 : decode cX0_set 1 = .ok (.iload_n 1, 1) := by decide +kernel
theorem dX0_set_2 : decode cX0_set 2 = .ok (.putfield 29, 3) := by decide +kernel
theorem dX0_set_5 : decode cX0_set 5 = .ok (.aload_n 0, 1) := by decide +kernel
theorem dX0_set_6 : decode cX0_set 6 = .ok (.iload_n 2, 1) := by decide +kernel
theorem dX0_set_7 : decode cX0_set 7 = .ok (.putfield 33, 3) := by decide +kernel
theorem dX0_set_10 : decode cX0_set 10 = .ok (.aload_n 0, 1) := by decide +kernel
theorem dX0_set_11 : decode cX0_set 11 = .ok (.iload_n 3, 1) := by decide +kernel
theorem dX0_set_12 : decode cX0_set 12 = .ok (.putfield 36, 3) := by decide +kernel
theorem dX0_set_15 : decode cX0_set 15 = .ok (.return_, 1) := by decide +kernel
set_option maxRecDepth 20000 in
theorem ggX0_crossWith_X0_set : GoodIn wsX0_crossWith wsX0_set := goodIn_r _ [8, 3, 1, 2, 16, 17, 18] (by decide +kernel) (by decide +kernel)
set_option maxRecDepth 20000 in
theorem gX0_crossWith_X0_set : GoodIn wsX0_crossWith (wsV RX0 19 RX0 yX0_set wsX0_set) := goodIn_app (goodIn_of _ (by decide +kernel)) ggX0_crossWith_X0_set
theorem dX0_crossWith_0 : decode cX0_crossWith 0 = .ok (.aload_n 1, 1) := by decide +kernel
theorem dX0_crossWith_1 : decode cX0_crossWith 1 = .ok (.getfield 7, 3) := by decide +kernel
theorem dX0_crossWith_4 : decode cX0_crossWith 4 = .ok (.iload_n 2, 1) := by decide +kernel
theorem dX0_crossWith_5 : decode cX0_crossWith 5 = .ok (.iaload, 1) := by decide +kernel
theorem dX0_crossWith_6 : decode cX0_crossWith 6 = .ok (.istore_n 3, 1) := by decide +kernel
theorem dX0_crossWith_7 : decode cX0_crossWith 7 = .ok (.aload_n 1, 1) := by decide +kernel
theorem dX0_crossWith_8 : decode cX0_crossWith 8 = .ok (.getfield 13, 3) := by decide +kernel
theorem dX0_crossWith_11 : decode cX0_crossWith 11 = .ok (.iload_n 2, 1) := by decide +kernel
theorem dX0_crossWith_12 : decode cX0_crossWith 12 = .ok (.iaload, 1) := by decide +kernel
theorem dX0_crossWith_13 : decode cX0_crossWith 13 = .ok (.istore 4, 2) := by decide +kernel
theorem dX0_crossWith_15 : decode cX0_crossWith 15 = .ok (.aload_n 1, 1) := by decide +kernel
theorem dX0_crossWith_16 : decode cX0_crossWith 16 = .ok (.getfield 16, 3) := by decide +kernel
theorem dX0_crossWith_19 : decode cX0_crossWith 19 = .ok (.iload_n 2, 1) := by decide +kernel
theorem dX0_crossWith_20 : decode cX0_crossWith 20 = .ok (.iaload, 1) := by decide +kernel
theorem dX0_crossWith_21 : decode cX0_crossWith 21 = .ok (.istore 5, 2) := by decide +kernel
theorem dX0_crossWith_23 : decode cX0_crossWith 23 = .ok (.aload_n 0, 1) := by decide +kernel
theorem dX0_crossWith_24 : decode cX0_crossWith 24 = .ok (.aload_n 0, 1) := by decide +kernel
theorem dX0_crossWith_25 : decode cX0_crossWith 25 = .ok (.getfield 33, 3) := by decide +kernel
theorem dX0_crossWith_28 : decode cX0_crossWith 28 = .ok (.iload 5, 2) := by decide +kernel
theorem dX0_crossWith_30 : decode cX0_crossWith 30 = .ok (.imul, 1) := by decide +kernel
theorem dX0_crossWith_31 : decode cX0_crossWith 31 = .ok (.aload_n 0, 1) := by decide +kernel
theorem dX0_crossWith_32 : decode cX0_crossWith 32 = .ok (.getfield 36, 3) := by decide +kernel
theorem dX0_crossWith_35 : decode cX0_crossWith 35 = .ok (.iload 4, 2) := by decide +kernel
theorem dX0_crossWith_37 : decode cX0_crossWith 37 = .ok (.imul, 1) := by decide +kernel
theorem dX0_crossWith_38 : decode cX0_crossWith 38 = .ok (.isub, 1) := by decide +kernel
theorem dX0_crossWith_39 : decode cX0_crossWith 39 = .ok (.aload_n 0, 1) := by decide +kernel
theorem dX0_crossWith_40 : decode cX0_crossWith 40 = .ok (.getfield 36, 3) := by decide +kernel
theorem dX0_crossWith_43 : decode cX0_crossWith 43 = .ok (.iload_n 3, 1) := by decide +kernel
theorem dX0_crossWith_44 : decode cX0_crossWith 44 = .ok (.imul, 1) := by decide +kernel
theorem dX0_crossWith_45 : decode cX0_crossWith 45 = .ok (.aload_n 0, 1) := by decide +kernel
theorem dX0_crossWith_46 : decode cX0_crossWith 46 = .ok (.getfield 29, 3) := by decide +kernel
theorem dX0_crossWith_49 : decode cX0_crossWith 49 = .ok (.iload 5, 2) := by decide +kernel
theorem dX0_crossWith_51 : decode cX0_crossWith 51 = .ok (.imul, 1) := by decide +kernel
theorem dX0_crossWith_52 : decode cX0_crossWith 52 = .ok (.isub, 1) := by decide +kernel
theorem dX0_crossWith_53 : decode cX0_crossWith 53 = .ok (.aload_n 0, 1) := by decide +kernel
theorem dX0_crossWith_54 : decode cX0_crossWith 54 = .ok (.getfield 29, 3) := by decide +kernel
theorem dX0_crossWith_57 : decode cX0_crossWith 57 = .ok (.iload 4, 2) := by decide +kernel
theorem dX0_crossWith_59 : decode cX0_crossWith 59 = .ok (.imul, 1) := by decide +kernel
theorem dX0_crossWith_60 : decode cX0_crossWith 60 = .ok (.aload_n 0, 1) := by decide +kernel
theorem dX0_crossWith_61 : decode cX0_crossWith 61 = .ok (.getfield 33, 3) := by decide +kernel
theorem dX0_crossWith_64 : decode cX0_crossWith 64 = .ok (.iload_n 3, 1) := by decide +kernel
theorem dX0_crossWith_65 : decode cX0_crossWith 65 = .ok (.imul, 1) := by decide +kernel
theorem dX0_crossWith_66 : decode cX0_crossWith 66 = .ok (.isub, 1) := by decide +kernel
theorem dX0_crossWith_67 : decode cX0_crossWith 67 = .ok (.invokevirtual 19, 3) := by decide +kernel
theorem dX0_crossWith_70 : decode cX0_crossWith 70 = .ok (.return_, 1) := by decide +kernel
theorem dX0_climb_0 : decode cX0_climb 0 = .ok (.aload_n 1, 1) := by decide +kernel
theorem dX0_climb_1 : decode cX0_climb 1 = .ok (.getfield 7, 3) := by decide +kernel
theorem dX0_climb_4 : decode cX0_climb 4 = .ok (.iload_n 2, 1) := by decide +kernel
theorem dX0_climb_5 : decode cX0_climb 5 = .ok (.iaload, 1) := by decide +kernel
theorem dX0_climb_6 : decode cX0_climb 6 = .ok (.aload_n 0, 1) := by decide +kernel
theorem dX0_climb_7 : decode cX0_climb 7 = .ok (.getfield 29, 3) := by decide +kernel
theorem dX0_climb_10 : decode cX0_climb 10 = .ok (.imul, 1) := by decide +kernel
theorem dX0_climb_11 : decode cX0_climb 11 = .ok (.aload_n 1, 1) := by decide +kernel
theorem dX0_climb_12 : decode cX0_climb 12 = .ok (.getfield 13, 3) := by decide +kernel
theorem dX0_climb_15 : decode cX0_climb 15 = .ok (.iload_n 2, 1) := by decide +kernel
theorem dX0_climb_16 : decode cX0_climb 16 = .ok (.iaload, 1) := by decide +kernel
theorem dX0_climb_17 : decode cX0_climb 17 = .ok (.aload_n 0, 1) := by decide +kernel
theorem dX0_climb_18 : decode cX0_climb 18 = .ok (.getfield 33, 3) := by decide +kernel
theorem dX0_climb_21 : decode cX0_climb 21 = .ok (.imul, 1) := by decide +kernel
theorem dX0_climb_22 : decode cX0_climb 22 = .ok (.iadd, 1) := by decide +kernel
theorem dX0_climb_23 : decode cX0_climb 23 = .ok (.aload_n 1, 1) := by decide +kernel
theorem dX0_climb_24 : decode cX0_climb 24 = .ok (.getfield 16, 3) := by decide +kernel
theorem dX0_climb_27 : decode cX0_climb 27 = .ok (.iload_n 2, 1) := by decide +kernel
theorem dX0_climb_28 : decode cX0_climb 28 = .ok (.iaload, 1) := by decide +kernel
theorem dX0_climb_29 : decode cX0_climb 29 = .ok (.aload_n 0, 1) := by decide +kernel
theorem dX0_climb_30 : decode cX0_climb 30 = .ok (.getfield 36, 3) := by decide +kernel
theorem dX0_climb_33 : decode cX0_climb 33 = .ok (.imul, 1) := by decide +kernel
theorem dX0_climb_34 : decode cX0_climb 34 = .ok (.iadd, 1) := by decide +kernel
theorem dX0_climb_35 : decode cX0_climb 35 = .ok (.ireturn, 1) := by decide +kernel
theorem dX0_isNothing_0 : decode cX0_isNothing 0 = .ok (.aload_n 0, 1) := by decide +kernel
theorem dX0_isNothing_1 : decode cX0_isNothing 1 = .ok (.getfield 29, 3) := by decide +kernel
theorem dX0_isNothing_4 : decode cX0_isNothing 4 = .ok (.ifCond .ne 21, 3) := by decide +kernel
theorem dX0_isNothing_7 : decode cX0_isNothing 7 = .ok (.aload_n 0, 1) := by decide +kernel
theorem dX0_isNothing_8 : decode cX0_isNothing 8 = .ok (.getfield 33, 3) := by decide +kernel
theorem dX0_isNothing_11 : decode cX0_isNothing 11 = .ok (.ifCond .ne 14, 3) := by decide +kernel
theorem dX0_isNothing_14 : decode cX0_isNothing 14 = .ok (.aload_n 0, 1) := by decide +kernel
theorem dX0_isNothing_15 : decode cX0_isNothing 15 = .ok (.getfield 36, 3) := by decide +kernel
theorem dX0_isNothing_18 : decode cX0_isNothing 18 = .ok (.ifCond .ne 7, 3) := by decide +kernel
theorem dX0_isNothing_21 : decode cX0_isNothing 21 = .ok (.iconst 1, 1) := by decide +kernel
theorem dX0_isNothing_22 : decode cX0_isNothing 22 = .ok (.goto 4, 3) := by decide +kernel
theorem dX0_isNothing_25 : decode cX0_isNothing 25 = .ok (.iconst 0, 1) := by decide +kernel
theorem dX0_isNothing_26 : decode cX0_isNothing 26 = .ok (.ireturn, 1) := by decide +kernel
set_option maxRecDepth 20000 in
theorem ggX1_init_X0_init : GoodIn wsX1_init wsX0_init := goodIn_r _ [22, 23, 2, 3] (by decide +kernel) (by decide +kernel)
set_option maxRecDepth 20000 in
theorem gX1_init_X0_init_n32 : GoodIn wsX1_init (wsX0_init) := ggX1_init_X0_init
theorem dX1_init_0 : decode cX1_init 0 = .ok (.aload_n 0, 1) := by decide +kernel
theorem dX1_init_1 : decode cX1_init 1 = .ok (.invokespecial 3, 3) := by decide +kernel
theorem dX1_init_4 : decode cX1_init 4 = .ok (.aload_n 0, 1) := by decide +kernel
theorem dX1_init_5 : decode cX1_init 5 = .ok (.sipush 206, 3) := by decide +kernel
theorem dX1_init_8 : decode cX1_init 8 = .ok (.newarray .int, 2) := by decide +kernel
theorem dX1_init_10 : decode cX1_init 10 = .ok (.putfield 9, 3) := by decide +kernel
theorem dX1_init_13 : decode cX1_init 13 = .ok (.aload_n 0, 1) := by decide +kernel
theorem dX1_init_14 : decode cX1_init 14 = .ok (.sipush 577, 3) := by decide +kernel
theorem dX1_init_17 : decode cX1_init 17 = .ok (.newarray .int, 2) := by decide +kernel
theorem dX1_init_19 : decode cX1_init 19 = .ok (.putfield 15, 3) := by decide +kernel
theorem dX1_init_22 : decode cX1_init 22 = .ok (.aload_n 0, 1) := by decide +kernel
theorem dX1_init_23 : decode cX1_init 23 = .ok (.sipush 577, 3) := by decide +kernel
theorem dX1_init_26 : decode cX1_init 26 = .ok (.newarray .int, 2) := by decide +kernel
theorem dX1_init_28 : decode cX1_init 28 = .ok (.putfield 18, 3) := by decide +kernel
theorem dX1_init_31 : decode cX1_init 31 = .ok (.aload_n 0, 1) := by decide +kernel
theorem dX1_init_32 : decode cX1_init 32 = .ok (.sipush 577, 3) := by decide +kernel
theorem dX1_init_35 : decode cX1_init 35 = .ok (.newarray .int, 2) := by decide +kernel
theorem dX1_init_37 : decode cX1_init 37 = .ok (.putfield 21, 3) := by decide +kernel
theorem dX1_init_40 : decode cX1_init 40 = .ok (.aload_n 0, 1) := by decide +kernel
theorem dX1_init_41 : decode cX1_init 41 = .ok (.bipush 55, 2) := by decide +kernel
theorem dX1_init_43 : decode cX1_init 43 = .ok (.newarray .int, 2) := by decide +kernel
theorem dX1_init_45 : decode cX1_init 45 = .ok (.putfield 24, 3) := by decide +kernel
theorem dX1_init_48 : decode cX1_init 48 = .ok (.aload_n 0, 1) := by decide +kernel
theorem dX1_init_49 : decode cX1_init 49 = .ok (.bipush 55, 2) := by decide +kernel
theorem dX1_init_51 : decode cX1_init 51 = .ok (.newarray .int, 2) := by decide +kernel
theorem dX1_init_53 : decode cX1_init 53 = .ok (.putfield 27, 3) := by decide +kernel
theorem dX1_init_56 : decode cX1_init 56 = .ok (.aload_n 0, 1) := by decide +kernel
theorem dX1_init_57 : decode cX1_init 57 = .ok (.new 30, 3) := by decide +kernel
theorem dX1_init_60 : decode cX1_init 60 = .ok (.dup, 1) := by decide +kernel
theorem dX1_init_61 : decode cX1_init 61 = .ok (.invokespecial 32, 3) := by decide +kernel
theorem dX1_init_64 : decode cX1_init 64 = .ok (.putfield 33, 3) := by decide +kernel
theorem dX1_init_67 : decode cX1_init 67 = .ok (.aload_n 0, 1) := by decide +kernel
theorem dX1_init_68 : decode cX1_init 68 = .ok (.new 30, 3) := by decide +kernel
theorem dX1_init_71 : decode cX1_init 71 = .ok (.dup, 1) := by decide +kernel
theorem dX1_init_72 : decode cX1_init 72 = .ok (.invokespecial 32, 3) := by decide +kernel
theorem dX1_init_75 : decode cX1_init 75 = .ok (.putfield 37, 3) := by decide +kernel
theorem dX1_init_78 : decode cX1_init 78 = .ok (.aload_n 0, 1) := by decide +kernel
theorem dX1_init_79 : decode cX1_init 79 = .ok (.new 30, 3) := by decide +kernel
theorem dX1_init_82 : decode cX1_init 82 = .ok (.dup, 1) := by decide +kernel
theorem dX1_init_83 : decode cX1_init 83 = .ok (.invokespecial 32, 3) := by decide +kernel
theorem dX1_init_86 : decode cX1_init 86 = .ok (.putfield 40, 3) := by decide +kernel
theorem dX1_init_89 : decode cX1_init 89 = .ok (.aload_n 0, 1) := by decide +kernel
theorem dX1_init_90 : decode cX1_init 90 = .ok (.aload_n 1, 1) := by decide +kernel
theorem dX1_init_91 : decode cX1_init 91 = .ok (.putfield 43, 3) := by decide +kernel
theorem dX1_init_94 : decode cX1_init 94 = .ok (.aload_n 0, 1) := by decide +kernel
theorem dX1_init_95 : decode cX1_init 95 = .ok (.aload_n 2, 1) := by decide +kernel
theorem dX1_init_96 : decode cX1_init 96 = .ok (.putfield 47, 3) := by decide +kernel
theorem dX1_init_99 : decode cX1_init 99 = .ok (.aload_n 0, 1) := by decide +kernel
theorem dX1_init_100 : decode cX1_init 100 = .ok (.iconst 0, 1) := by decide +kernel
theorem dX1_init_101 : decode cX1_init 101 = .ok (.putfield 51, 3) := by decide +kernel
theorem dX1_init_104 : decode cX1_init 104 = .ok (.aload_n 0, 1) := by decide +kernel
theorem dX1_init_105 : decode cX1_init 105 = .ok (.iconst 0, 1) := by decide +kernel
theorem dX1_init_106 : decode cX1_init 106 = .ok (.putfield 55, 3) := by decide +kernel
theorem dX1_init_109 : decode cX1_init 109 = .ok (.return_, 1) := by decide +kernel
set_option maxRecDepth 20000 in
theorem ggX1_cutAnew_J7_fill_53178 : GoodIn wsX1_cutAnew wsJ7_fill_53178 := goodIn_r _ [9] (by decide +kernel) (by decide +kernel)
set_option maxRecDepth 20000 in
theorem gX1_cutAnew_J7_fill_53178 : GoodIn wsX1_cutAnew (va_wsS RX1 58 yJ7_fill_53178 wsJ7_fill_53178) := goodIn_app (goodIn_of _ (by decide +kernel)) ggX1_cutAnew_J7_fill_53178
set_option maxRecDepth 20000 in
theorem ggX1_cutAnew_X2_forgetCommon : GoodIn wsX1_cutAnew wsX2_forgetCommon := goodIn_r _ [14, 15, 146, 147, 148, 149, 150, 151, 152] (by decide +kernel) (by decide +kernel)
set_option maxRecDepth 20000 in
theorem gX1_cutAnew_X2_forgetCommon : GoodIn wsX1_cutAnew (wsV RX1 64 RX2 yX2_forgetCommon wsX2_forgetCommon) := goodIn_app (goodIn_of _ (by decide +kernel)) ggX1_cutAnew_X2_forgetCommon
set_option maxRecDepth 20000 in
theorem ggX1_cutAnew_X2_rankAnew : GoodIn wsX1_cutAnew wsX2_rankAnew := goodIn_r _ [19, 20, 21, 22, 23, 13, 24, 25, 26, 27, 28, 29, 30, 31, 32, 33, 34, 35, 36, 37, 38, 39, 40, 41, 42, 43, 44, 45, 46, 47, 48, 49, 50, 146, 147, 148, 149, 150, 151, 152, 153, 154, 155, 156, 157, 158, 159, 160, 161, 162] (by decide +kernel) (by decide +kernel)
set_option maxRecDepth 20000 in
theorem gX1_cutAnew_X2_rankAnew : GoodIn wsX1_cutAnew (wsV RX1 69 RX2 yX2_rankAnew wsX2_rankAnew) := goodIn_app (goodIn_of _ (by decide +kernel)) ggX1_cutAnew_X2_rankAnew
set_option maxRecDepth 20000 in
theorem ggX1_cutAnew_X1_crossPlanes : GoodIn wsX1_cutAnew wsX1_crossPlanes := goodIn_r _ [55, 4, 56, 57, 58, 59, 60, 13, 61, 25, 20, 62, 63, 64, 65, 66, 67, 68, 69, 70, 71, 72, 73, 74, 33, 75, 42, 31, 32, 34, 35, 36, 37, 76, 39, 40, 41, 77, 44, 45, 46, 78, 79, 80, 54, 81, 3, 82, 83, 84, 85, 86, 87, 88, 89, 90, 91, 92, 93, 94, 95, 96, 97, 98, 99, 100, 101, 102, 103, 48, 49, 50, 104, 105, 106, 107, 2, 1, 5, 108, 109, 110, 111, 112, 113, 114, 115, 116, 133, 134, 135, 136, 137, 138, 139, 140, 141, 142, 143, 144, 145, 153, 154, 155, 156, 157, 158, 159, 146, 147, 148, 149, 150, 151, 152, 160, 161, 162] (by decide +kernel) (by decide +kernel)
set_option maxRecDepth 20000 in
theorem gX1_cutAnew_X1_crossPlanes : GoodIn wsX1_cutAnew (wsV RX1 72 RX1 yX1_crossPlanes wsX1_crossPlanes) := goodIn_app (goodIn_of _ (by decide +kernel)) ggX1_cutAnew_X1_crossPlanes
set_option maxRecDepth 20000 in
theorem ggX1_cutAnew_X1_moveFrom : GoodIn wsX1_cutAnew wsX1_moveFrom := goodIn_r _ [120, 3, 82, 83, 4, 92, 93, 94, 95, 96, 104, 105, 106, 54, 107, 56, 2, 1, 5, 108, 109, 110, 65, 111, 112, 113, 114, 115, 116, 133, 134, 135, 136, 137, 138, 139, 140, 141, 142, 143, 144, 145, 146, 147, 148, 149, 150, 151, 152, 153, 154, 155, 156, 157, 158, 159] (by decide +kernel) (by decide +kernel)
set_option maxRecDepth 20000 in
theorem gX1_cutAnew_X1_moveFrom : GoodIn wsX1_cutAnew (wsV RX1 75 RX1 yX1_moveFrom wsX1_moveFrom) := goodIn_app (goodIn_of _ (by decide +kernel)) ggX1_cutAnew_X1_moveFrom
set_option maxRecDepth 20000 in
theorem ggX1_cutAnew_X1_sortRows : GoodIn wsX1_cutAnew wsX1_sortRows := goodIn_r _ [124, 2, 125, 126, 56, 4, 113, 114, 115, 54, 116, 1, 127, 93, 128, 133, 134, 135, 136, 137, 138, 139, 140, 141, 142, 143, 144, 145, 153, 154, 155, 156, 157, 158, 159, 146, 147, 148, 149, 150, 151, 152] (by decide +kernel) (by decide +kernel)
set_option maxRecDepth 20000 in
theorem gX1_cutAnew_X1_sortRows : GoodIn wsX1_cutAnew (wsV RX1 79 RX1 yX1_sortRows wsX1_sortRows) := goodIn_app (goodIn_of _ (by decide +kernel)) ggX1_cutAnew_X1_sortRows
set_option maxRecDepth 20000 in
theorem ggX1_cutAnew_X2_shareDown : GoodIn wsX1_cutAnew wsX2_shareDown := goodIn_r _ [132, 20, 15, 146, 147, 148, 149, 150, 151, 152, 153, 154, 155, 156, 157, 158, 159] (by decide +kernel) (by decide +kernel)
set_option maxRecDepth 20000 in
theorem gX1_cutAnew_X2_shareDown : GoodIn wsX1_cutAnew (wsV RX1 82 RX2 yX2_shareDown wsX2_shareDown) := goodIn_app (goodIn_of _ (by decide +kernel)) ggX1_cutAnew_X2_shareDown
theorem dX1_cutAnew_0 : decode cX1_cutAnew 0 = .ok (.aload_n 0, 1) := by decide +kernel
theorem dX1_cutAnew_1 : decode cX1_cutAnew 1 = .ok (.getfield 9, 3) := by decide +kernel
theorem dX1_cutAnew_4 : decode cX1_cutAnew 4 = .ok (.iconst 0, 1) := by decide +kernel
theorem dX1_cutAnew_5 : decode cX1_cutAnew 5 = .ok (.invokestatic 58, 3) := by decide +kernel
theorem dX1_cutAnew_8 : decode cX1_cutAnew 8 = .ok (.aload_n 0, 1) := by decide +kernel
theorem dX1_cutAnew_9 : decode cX1_cutAnew 9 = .ok (.iconst 0, 1) := by decide +kernel
theorem dX1_cutAnew_10 : decode cX1_cutAnew 10 = .ok (.putfield 51, 3) := by decide +kernel
theorem dX1_cutAnew_13 : decode cX1_cutAnew 13 = .ok (.aload_n 0, 1) := by decide +kernel
theorem dX1_cutAnew_14 : decode cX1_cutAnew 14 = .ok (.iconst 0, 1) := by decide +kernel
theorem dX1_cutAnew_15 : decode cX1_cutAnew 15 = .ok (.putfield 55, 3) := by decide +kernel
theorem dX1_cutAnew_18 : decode cX1_cutAnew 18 = .ok (.aload_n 0, 1) := by decide +kernel
theorem dX1_cutAnew_19 : decode cX1_cutAnew 19 = .ok (.getfield 47, 3) := by decide +kernel
theorem dX1_cutAnew_22 : decode cX1_cutAnew 22 = .ok (.invokevirtual 64, 3) := by decide +kernel
theorem dX1_cutAnew_25 : decode cX1_cutAnew 25 = .ok (.aload_n 0, 1) := by decide +kernel
theorem dX1_cutAnew_26 : decode cX1_cutAnew 26 = .ok (.getfield 47, 3) := by decide +kernel
theorem dX1_cutAnew_29 : decode cX1_cutAnew 29 = .ok (.invokevirtual 69, 3) := by decide +kernel
theorem dX1_cutAnew_32 : decode cX1_cutAnew 32 = .ok (.aload_n 0, 1) := by decide +kernel
theorem dX1_cutAnew_33 : decode cX1_cutAnew 33 = .ok (.invokevirtual 72, 3) := by decide +kernel
theorem dX1_cutAnew_36 : decode cX1_cutAnew 36 = .ok (.iconst 0, 1) := by decide +kernel
theorem dX1_cutAnew_37 : decode cX1_cutAnew 37 = .ok (.istore_n 1, 1) := by decide +kernel
theorem dX1_cutAnew_38 : decode cX1_cutAnew 38 = .ok (.iload_n 1, 1) := by decide +kernel
theorem dX1_cutAnew_39 : decode cX1_cutAnew 39 = .ok (.sipush 577, 3) := by decide +kernel
theorem dX1_cutAnew_42 : decode cX1_cutAnew 42 = .ok (.if_icmp .ge 27, 3) := by decide +kernel
theorem dX1_cutAnew_45 : decode cX1_cutAnew 45 = .ok (.iload_n 1, 1) := by decide +kernel
theorem dX1_cutAnew_46 : decode cX1_cutAnew 46 = .ok (.aload_n 0, 1) := by decide +kernel
theorem dX1_cutAnew_47 : decode cX1_cutAnew 47 = .ok (.getfield 51, 3) := by decide +kernel
theorem dX1_cutAnew_50 : decode cX1_cutAnew 50 = .ok (.if_icmp .ge 19, 3) := by decide +kernel
theorem dX1_cutAnew_53 : decode cX1_cutAnew 53 = .ok (.aload_n 0, 1) := by decide +kernel
theorem dX1_cutAnew_54 : decode cX1_cutAnew 54 = .ok (.aload_n 0, 1) := by decide +kernel
theorem dX1_cutAnew_55 : decode cX1_cutAnew 55 = .ok (.getfield 15, 3) := by decide +kernel
theorem dX1_cutAnew_58 : decode cX1_cutAnew 58 = .ok (.iload_n 1, 1) := by decide +kernel
theorem dX1_cutAnew_59 : decode cX1_cutAnew 59 = .ok (.iaload, 1) := by decide +kernel
theorem dX1_cutAnew_60 : decode cX1_cutAnew 60 = .ok (.invokevirtual 75, 3) := by decide +kernel
theorem dX1_cutAnew_63 : decode cX1_cutAnew 63 = .ok (.iinc 1 1, 3) := by decide +kernel
theorem dX1_cutAnew_66 : decode cX1_cutAnew 66 = .ok (.goto (-28), 3) := by decide +kernel
theorem dX1_cutAnew_69 : decode cX1_cutAnew 69 = .ok (.aload_n 0, 1) := by decide +kernel
theorem dX1_cutAnew_70 : decode cX1_cutAnew 70 = .ok (.invokevirtual 79, 3) := by decide +kernel
theorem dX1_cutAnew_73 : decode cX1_cutAnew 73 = .ok (.aload_n 0, 1) := by decide +kernel
theorem dX1_cutAnew_74 : decode cX1_cutAnew 74 = .ok (.getfield 47, 3) := by decide +kernel
theorem dX1_cutAnew_77 : decode cX1_cutAnew 77 = .ok (.invokevirtual 82, 3) := by decide +kernel
theorem dX1_cutAnew_80 : decode cX1_cutAnew 80 = .ok (.return_, 1) := by decide +kernel
set_option maxRecDepth 20000 in
theorem ggX1_crossPlanes_X2_rankOfAll : GoodIn wsX1_crossPlanes wsX2_rankOfAll := goodIn_r _ [8, 9, 10, 108, 109, 110, 111, 112, 113, 114, 101, 102, 103, 104, 105, 106, 107] (by decide +kernel) (by decide +kernel)
set_option maxRecDepth 20000 in
theorem gX1_crossPlanes_X2_rankOfAll : GoodIn wsX1_crossPlanes (wsV RX1 85 RX2 yX2_rankOfAll wsX2_rankOfAll) := goodIn_app (goodIn_of _ (by decide +kernel)) ggX1_crossPlanes_X2_rankOfAll
set_option maxRecDepth 20000 in
theorem ggX1_crossPlanes_X3_indexOf : GoodIn wsX1_crossPlanes wsX3_indexOf := goodIn_r _ [15, 16, 17, 18, 19, 20, 101, 102, 103, 104, 105, 106, 107] (by decide +kernel) (by decide +kernel)
set_option maxRecDepth 20000 in
theorem gX1_crossPlanes_X3_indexOf : GoodIn wsX1_crossPlanes (wsV RX1 94 RX3 yX3_indexOf wsX3_indexOf) := goodIn_app (goodIn_of _ (by decide +kernel)) ggX1_crossPlanes_X3_indexOf
set_option maxRecDepth 20000 in
theorem ggX1_crossPlanes_X0_alongBoth : GoodIn wsX1_crossPlanes wsX0_alongBoth := goodIn_r _ [25, 26, 27, 28, 24, 29, 30, 31, 32, 33, 34, 35, 36, 101, 102, 103, 104, 105, 106, 107, 115, 116, 117] (by decide +kernel) (by decide +kernel)
set_option maxRecDepth 20000 in
theorem gX1_crossPlanes_X0_alongBoth : GoodIn wsX1_crossPlanes (wsV RX1 98 RX0 yX0_alongBoth wsX0_alongBoth) := goodIn_app (goodIn_of _ (by decide +kernel)) ggX1_crossPlanes_X0_alongBoth
set_option maxRecDepth 20000 in
theorem ggX1_crossPlanes_X0_isNothing : GoodIn wsX1_crossPlanes wsX0_isNothing := goodIn_r _ [40, 30, 31, 32, 115, 116, 117] (by decide +kernel) (by decide +kernel)
set_option maxRecDepth 20000 in
theorem gX1_crossPlanes_X0_isNothing : GoodIn wsX1_crossPlanes (wsV RX1 102 RX0 yX0_isNothing wsX0_isNothing) := goodIn_app (goodIn_of _ (by decide +kernel)) ggX1_crossPlanes_X0_isNothing
set_option maxRecDepth 20000 in
theorem ggX1_crossPlanes_X1_noteLine : GoodIn wsX1_crossPlanes wsX1_noteLine := goodIn_r _ [45, 2, 3, 46, 47, 48, 49, 50, 51, 14, 52, 16, 53, 54, 55, 56, 57, 58, 59, 60, 61, 88, 89, 90, 91, 92, 93, 94, 95, 96, 97, 98, 99, 100, 101, 102, 103, 104, 105, 106, 107, 115, 116, 117] (by decide +kernel) (by decide +kernel)
set_option maxRecDepth 20000 in
theorem gX1_crossPlanes_X1_noteLine : GoodIn wsX1_crossPlanes (wsV RX1 106 RX1 yX1_noteLine wsX1_noteLine) := goodIn_app (goodIn_of _ (by decide +kernel)) ggX1_crossPlanes_X1_noteLine
set_option maxRecDepth 20000 in
theorem ggX1_crossPlanes_X1_noteCorner : GoodIn wsX1_crossPlanes wsX1_noteCorner := goodIn_r _ [65, 3, 2, 66, 67, 68, 69, 70, 24, 71, 30, 31, 32, 21, 22, 23, 25, 26, 27, 28, 29, 33, 34, 35, 36, 49, 50, 51, 14, 52, 16, 53, 54, 55, 56, 72, 73, 74, 44, 75, 76, 77, 78, 1, 79, 80, 81, 82, 83, 57, 58, 59, 60, 61, 84, 85, 86, 87, 88, 89, 90, 91, 92, 93, 94, 95, 96, 97, 98, 99, 100, 101, 102, 103, 104, 105, 106, 107, 115, 116, 117, 108, 109, 110, 111, 112, 113, 114] (by decide +kernel) (by decide +kernel)
set_option maxRecDepth 20000 in
theorem gX1_crossPlanes_X1_noteCorner : GoodIn wsX1_crossPlanes (wsV RX1 109 RX1 yX1_noteCorner wsX1_noteCorner) := goodIn_app (goodIn_of _ (by decide +kernel)) ggX1_crossPlanes_X1_noteCorner
theorem dX1_crossPlanes_0 : decode cX1_crossPlanes 0 = .ok (.aload_n 0, 1) := by decide +kernel
theorem dX1_crossPlanes_1 : decode cX1_crossPlanes 1 = .ok (.getfield 47, 3) := by decide +kernel
theorem dX1_crossPlanes_4 : decode cX1_crossPlanes 4 = .ok (.invokevirtual 85, 3) := by decide +kernel
theorem dX1_crossPlanes_7 : decode cX1_crossPlanes 7 = .ok (.iconst 3, 1) := by decide +kernel
theorem dX1_crossPlanes_8 : decode cX1_crossPlanes 8 = .ok (.if_icmp .ne 13, 3) := by decide +kernel
theorem dX1_crossPlanes_11 : decode cX1_crossPlanes 11 = .ok (.aload_n 0, 1) := by decide +kernel
theorem dX1_crossPlanes_12 : decode cX1_crossPlanes 12 = .ok (.getfield 43, 3) := by decide +kernel
theorem dX1_crossPlanes_15 : decode cX1_crossPlanes 15 = .ok (.getfield 89, 3) := by decide +kernel
theorem dX1_crossPlanes_18 : decode cX1_crossPlanes 18 = .ok (.goto 12, 3) := by decide +kernel
theorem dX1_crossPlanes_21 : decode cX1_crossPlanes 21 = .ok (.aload_n 0, 1) := by decide +kernel
theorem dX1_crossPlanes_22 : decode cX1_crossPlanes 22 = .ok (.getfield 43, 3) := by decide +kernel
theorem dX1_crossPlanes_25 : decode cX1_crossPlanes 25 = .ok (.getfield 89, 3) := by decide +kernel
theorem dX1_crossPlanes_28 : decode cX1_crossPlanes 28 = .ok (.iconst 3, 1) := by decide +kernel
theorem dX1_crossPlanes_29 : decode cX1_crossPlanes 29 = .ok (.iadd, 1) := by decide +kernel
theorem dX1_crossPlanes_30 : decode cX1_crossPlanes 30 = .ok (.istore_n 1, 1) := by decide +kernel
theorem dX1_crossPlanes_31 : decode cX1_crossPlanes 31 = .ok (.iconst 0, 1) := by decide +kernel
theorem dX1_crossPlanes_32 : decode cX1_crossPlanes 32 = .ok (.istore_n 2, 1) := by decide +kernel
theorem dX1_crossPlanes_33 : decode cX1_crossPlanes 33 = .ok (.iload_n 2, 1) := by decide +kernel
theorem dX1_crossPlanes_34 : decode cX1_crossPlanes 34 = .ok (.iload_n 1, 1) := by decide +kernel
theorem dX1_crossPlanes_35 : decode cX1_crossPlanes 35 = .ok (.if_icmp .ge 114, 3) := by decide +kernel
theorem dX1_crossPlanes_38 : decode cX1_crossPlanes 38 = .ok (.iload_n 2, 1) := by decide +kernel
theorem dX1_crossPlanes_39 : decode cX1_crossPlanes 39 = .ok (.iconst 1, 1) := by decide +kernel
theorem dX1_crossPlanes_40 : decode cX1_crossPlanes 40 = .ok (.iadd, 1) := by decide +kernel
theorem dX1_crossPlanes_41 : decode cX1_crossPlanes 41 = .ok (.istore_n 3, 1) := by decide +kernel
theorem dX1_crossPlanes_42 : decode cX1_crossPlanes 42 = .ok (.iload_n 3, 1) := by decide +kernel
theorem dX1_crossPlanes_43 : decode cX1_crossPlanes 43 = .ok (.iload_n 1, 1) := by decide +kernel
theorem dX1_crossPlanes_44 : decode cX1_crossPlanes 44 = .ok (.if_icmp .ge 99, 3) := by decide +kernel
theorem dX1_crossPlanes_47 : decode cX1_crossPlanes 47 = .ok (.aload_n 0, 1) := by decide +kernel
theorem dX1_crossPlanes_48 : decode cX1_crossPlanes 48 = .ok (.getfield 33, 3) := by decide +kernel
theorem dX1_crossPlanes_51 : decode cX1_crossPlanes 51 = .ok (.aload_n 0, 1) := by decide +kernel
theorem dX1_crossPlanes_52 : decode cX1_crossPlanes 52 = .ok (.getfield 43, 3) := by decide +kernel
theorem dX1_crossPlanes_55 : decode cX1_crossPlanes 55 = .ok (.aload_n 0, 1) := by decide +kernel
theorem dX1_crossPlanes_56 : decode cX1_crossPlanes 56 = .ok (.getfield 43, 3) := by decide +kernel
theorem dX1_crossPlanes_59 : decode cX1_crossPlanes 59 = .ok (.iload_n 2, 1) := by decide +kernel
theorem dX1_crossPlanes_60 : decode cX1_crossPlanes 60 = .ok (.invokevirtual 94, 3) := by decide +kernel
theorem dX1_crossPlanes_63 : decode cX1_crossPlanes 63 = .ok (.aload_n 0, 1) := by decide +kernel
theorem dX1_crossPlanes_64 : decode cX1_crossPlanes 64 = .ok (.getfield 43, 3) := by decide +kernel
theorem dX1_crossPlanes_67 : decode cX1_crossPlanes 67 = .ok (.iload_n 3, 1) := by decide +kernel
theorem dX1_crossPlanes_68 : decode cX1_crossPlanes 68 = .ok (.invokevirtual 94, 3) := by decide +kernel
theorem dX1_crossPlanes_71 : decode cX1_crossPlanes 71 = .ok (.invokevirtual 98, 3) := by decide +kernel
theorem dX1_crossPlanes_74 : decode cX1_crossPlanes 74 = .ok (.aload_n 0, 1) := by decide +kernel
theorem dX1_crossPlanes_75 : decode cX1_crossPlanes 75 = .ok (.getfield 33, 3) := by decide +kernel
theorem dX1_crossPlanes_78 : decode cX1_crossPlanes 78 = .ok (.invokevirtual 102, 3) := by decide +kernel
theorem dX1_crossPlanes_81 : decode cX1_crossPlanes 81 = .ok (.ifCond .eq 6, 3) := by decide +kernel
theorem dX1_crossPlanes_84 : decode cX1_crossPlanes 84 = .ok (.goto 53, 3) := by decide +kernel
theorem dX1_crossPlanes_87 : decode cX1_crossPlanes 87 = .ok (.aload_n 0, 1) := by decide +kernel
theorem dX1_crossPlanes_88 : decode cX1_crossPlanes 88 = .ok (.invokevirtual 106, 3) := by decide +kernel
theorem dX1_crossPlanes_91 : decode cX1_crossPlanes 91 = .ok (.iload_n 3, 1) := by decide +kernel
theorem dX1_crossPlanes_92 : decode cX1_crossPlanes 92 = .ok (.iconst 1, 1) := by decide +kernel
theorem dX1_crossPlanes_93 : decode cX1_crossPlanes 93 = .ok (.iadd, 1) := by decide +kernel
theorem dX1_crossPlanes_94 : decode cX1_crossPlanes 94 = .ok (.istore 4, 2) := by decide +kernel
theorem dX1_crossPlanes_96 : decode cX1_crossPlanes 96 = .ok (.iload 4, 2) := by decide +kernel
theorem dX1_crossPlanes_98 : decode cX1_crossPlanes 98 = .ok (.iload_n 1, 1) := by decide +kernel
theorem dX1_crossPlanes_99 : decode cX1_crossPlanes 99 = .ok (.if_icmp .ge 38, 3) := by decide +kernel
theorem dX1_crossPlanes_102 : decode cX1_crossPlanes 102 = .ok (.aload_n 0, 1) := by decide +kernel
theorem dX1_crossPlanes_103 : decode cX1_crossPlanes 103 = .ok (.aload_n 0, 1) := by decide +kernel
theorem dX1_crossPlanes_104 : decode cX1_crossPlanes 104 = .ok (.getfield 43, 3) := by decide +kernel
theorem dX1_crossPlanes_107 : decode cX1_crossPlanes 107 = .ok (.iload_n 2, 1) := by decide +kernel
theorem dX1_crossPlanes_108 : decode cX1_crossPlanes 108 = .ok (.invokevirtual 94, 3) := by decide +kernel
theorem dX1_crossPlanes_111 : decode cX1_crossPlanes 111 = .ok (.aload_n 0, 1) := by decide +kernel
theorem dX1_crossPlanes_112 : decode cX1_crossPlanes 112 = .ok (.getfield 43, 3) := by decide +kernel
theorem dX1_crossPlanes_115 : decode cX1_crossPlanes 115 = .ok (.iload_n 3, 1) := by decide +kernel
theorem dX1_crossPlanes_116 : decode cX1_crossPlanes 116 = .ok (.invokevirtual 94, 3) := by decide +kernel
theorem dX1_crossPlanes_119 : decode cX1_crossPlanes 119 = .ok (.aload_n 0, 1) := by decide +kernel
theorem dX1_crossPlanes_120 : decode cX1_crossPlanes 120 = .ok (.getfield 43, 3) := by decide +kernel
theorem dX1_crossPlanes_123 : decode cX1_crossPlanes 123 = .ok (.iload 4, 2) := by decide +kernel
theorem dX1_crossPlanes_125 : decode cX1_crossPlanes 125 = .ok (.invokevirtual 94, 3) := by decide +kernel
theorem dX1_crossPlanes_128 : decode cX1_crossPlanes 128 = .ok (.invokevirtual 109, 3) := by decide +kernel
theorem dX1_crossPlanes_131 : decode cX1_crossPlanes 131 = .ok (.iinc 4 1, 3) := by decide +kernel
theorem dX1_crossPlanes_134 : decode cX1_crossPlanes 134 = .ok (.goto (-38), 3) := by decide +kernel
theorem dX1_crossPlanes_137 : decode cX1_crossPlanes 137 = .ok (.iinc 3 1, 3) := by decide +kernel
theorem dX1_crossPlanes_140 : decode cX1_crossPlanes 140 = .ok (.goto (-98), 3) := by decide +kernel
theorem dX1_crossPlanes_143 : decode cX1_crossPlanes 143 = .ok (.iinc 2 1, 3) := by decide +kernel
theorem dX1_crossPlanes_146 : decode cX1_crossPlanes 146 = .ok (.goto (-113), 3) := by decide +kernel
theorem dX1_crossPlanes_149 : decode cX1_crossPlanes 149 = .ok (.return_, 1) := by decide +kernel
set_option maxRecDepth 20000 in
theorem ggX1_noteLine_X3_signs : GoodIn wsX1_noteLine wsX3_signs := goodIn_r _ [10, 11, 12, 13, 14, 15, 34, 35, 36, 37, 38, 39, 40] (by decide +kernel) (by decide +kernel)
set_option maxRecDepth 20000 in
theorem gX1_noteLine_X3_signs : GoodIn wsX1_noteLine (wsV RX1 122 RX3 yX3_signs wsX3_signs) := goodIn_app (goodIn_of _ (by decide +kernel)) ggX1_noteLine_X3_signs
set_option maxRecDepth 20000 in
theorem ggX1_noteLine_X5_onMask : GoodIn wsX1_noteLine wsX5_onMask := goodIn_r _ [18] (by decide +kernel) (by decide +kernel)
set_option maxRecDepth 20000 in
theorem gX1_noteLine_X5_onMask_n126 : GoodIn wsX1_noteLine (wsX5_onMask) := ggX1_noteLine_X5_onMask
set_option maxRecDepth 20000 in
theorem ggX1_noteLine_X5_aboveMask : GoodIn wsX1_noteLine wsX5_aboveMask := goodIn_r _ [20] (by decide +kernel) (by decide +kernel)
set_option maxRecDepth 20000 in
theorem gX1_noteLine_X5_aboveMask_n129 : GoodIn wsX1_noteLine (wsX5_aboveMask) := ggX1_noteLine_X5_aboveMask
theorem dX1_noteLine_0 : decode cX1_noteLine 0 = .ok (.iconst 1, 1) := by decide +kernel
theorem dX1_noteLine_1 : decode cX1_noteLine 1 = .ok (.aload_n 0, 1) := by decide +kernel
theorem dX1_noteLine_2 : decode cX1_noteLine 2 = .ok (.getfield 43, 3) := by decide +kernel
theorem dX1_noteLine_5 : decode cX1_noteLine 5 = .ok (.getfield 89, 3) := by decide +kernel
theorem dX1_noteLine_8 : decode cX1_noteLine 8 = .ok (.ishl, 1) := by decide +kernel
theorem dX1_noteLine_9 : decode cX1_noteLine 9 = .ok (.iconst 1, 1) := by decide +kernel
theorem dX1_noteLine_10 : decode cX1_noteLine 10 = .ok (.isub, 1) := by decide +kernel
theorem dX1_noteLine_11 : decode cX1_noteLine 11 = .ok (.istore_n 1, 1) := by decide +kernel
theorem dX1_noteLine_12 : decode cX1_noteLine 12 = .ok (.aload_n 0, 1) := by decide +kernel
theorem dX1_noteLine_13 : decode cX1_noteLine 13 = .ok (.getfield 43, 3) := by decide +kernel
theorem dX1_noteLine_16 : decode cX1_noteLine 16 = .ok (.aload_n 0, 1) := by decide +kernel
theorem dX1_noteLine_17 : decode cX1_noteLine 17 = .ok (.getfield 33, 3) := by decide +kernel
theorem dX1_noteLine_20 : decode cX1_noteLine 20 = .ok (.getfield 113, 3) := by decide +kernel
theorem dX1_noteLine_23 : decode cX1_noteLine 23 = .ok (.aload_n 0, 1) := by decide +kernel
theorem dX1_noteLine_24 : decode cX1_noteLine 24 = .ok (.getfield 33, 3) := by decide +kernel
theorem dX1_noteLine_27 : decode cX1_noteLine 27 = .ok (.getfield 116, 3) := by decide +kernel
theorem dX1_noteLine_30 : decode cX1_noteLine 30 = .ok (.aload_n 0, 1) := by decide +kernel
theorem dX1_noteLine_31 : decode cX1_noteLine 31 = .ok (.getfield 33, 3) := by decide +kernel
theorem dX1_noteLine_34 : decode cX1_noteLine 34 = .ok (.getfield 119, 3) := by decide +kernel
theorem dX1_noteLine_37 : decode cX1_noteLine 37 = .ok (.iconst 0, 1) := by decide +kernel
theorem dX1_noteLine_38 : decode cX1_noteLine 38 = .ok (.invokevirtual 122, 3) := by decide +kernel
theorem dX1_noteLine_41 : decode cX1_noteLine 41 = .ok (.istore_n 2, 1) := by decide +kernel
theorem dX1_noteLine_42 : decode cX1_noteLine 42 = .ok (.iload_n 2, 1) := by decide +kernel
theorem dX1_noteLine_43 : decode cX1_noteLine 43 = .ok (.invokestatic 126, 3) := by decide +kernel
theorem dX1_noteLine_46 : decode cX1_noteLine 46 = .ok (.istore_n 3, 1) := by decide +kernel
theorem dX1_noteLine_47 : decode cX1_noteLine 47 = .ok (.iload_n 2, 1) := by decide +kernel
theorem dX1_noteLine_48 : decode cX1_noteLine 48 = .ok (.invokestatic 129, 3) := by decide +kernel
theorem dX1_noteLine_51 : decode cX1_noteLine 51 = .ok (.istore 4, 2) := by decide +kernel
theorem dX1_noteLine_53 : decode cX1_noteLine 53 = .ok (.iload_n 3, 1) := by decide +kernel
theorem dX1_noteLine_54 : decode cX1_noteLine 54 = .ok (.iload_n 1, 1) := by decide +kernel
theorem dX1_noteLine_55 : decode cX1_noteLine 55 = .ok (.if_icmp .eq 12, 3) := by decide +kernel
theorem dX1_noteLine_58 : decode cX1_noteLine 58 = .ok (.aload_n 0, 1) := by decide +kernel
theorem dX1_noteLine_59 : decode cX1_noteLine 59 = .ok (.getfield 55, 3) := by decide +kernel
theorem dX1_noteLine_62 : decode cX1_noteLine 62 = .ok (.bipush 55, 2) := by decide +kernel
theorem dX1_noteLine_64 : decode cX1_noteLine 64 = .ok (.if_icmp .lt 4, 3) := by decide +kernel
theorem dX1_noteLine_67 : decode cX1_noteLine 67 = .ok (.return_, 1) := by decide +kernel
theorem dX1_noteLine_68 : decode cX1_noteLine 68 = .ok (.aload_n 0, 1) := by decide +kernel
theorem dX1_noteLine_69 : decode cX1_noteLine 69 = .ok (.getfield 24, 3) := by decide +kernel
theorem dX1_noteLine_72 : decode cX1_noteLine 72 = .ok (.aload_n 0, 1) := by decide +kernel
theorem dX1_noteLine_73 : decode cX1_noteLine 73 = .ok (.getfield 55, 3) := by decide +kernel
theorem dX1_noteLine_76 : decode cX1_noteLine 76 = .ok (.iload 4, 2) := by decide +kernel
theorem dX1_noteLine_78 : decode cX1_noteLine 78 = .ok (.iastore, 1) := by decide +kernel
theorem dX1_noteLine_79 : decode cX1_noteLine 79 = .ok (.aload_n 0, 1) := by decide +kernel
theorem dX1_noteLine_80 : decode cX1_noteLine 80 = .ok (.getfield 27, 3) := by decide +kernel
theorem dX1_noteLine_83 : decode cX1_noteLine 83 = .ok (.aload_n 0, 1) := by decide +kernel
theorem dX1_noteLine_84 : decode cX1_noteLine 84 = .ok (.getfield 55, 3) := by decide +kernel
theorem dX1_noteLine_87 : decode cX1_noteLine 87 = .ok (.iload_n 1, 1) := by decide +kernel
theorem dX1_noteLine_88 : decode cX1_noteLine 88 = .ok (.iload_n 3, 1) := by decide +kernel
theorem dX1_noteLine_89 : decode cX1_noteLine 89 = .ok (.iconst (-1), 1) := by decide +kernel
theorem dX1_noteLine_90 : decode cX1_noteLine 90 = .ok (.ixor, 1) := by decide +kernel
theorem dX1_noteLine_91 : decode cX1_noteLine 91 = .ok (.iand, 1) := by decide +kernel
theorem dX1_noteLine_92 : decode cX1_noteLine 92 = .ok (.iload 4, 2) := by decide +kernel
theorem dX1_noteLine_94 : decode cX1_noteLine 94 = .ok (.iconst (-1), 1) := by decide +kernel
theorem dX1_noteLine_95 : decode cX1_noteLine 95 = .ok (.ixor, 1) := by decide +kernel
theorem dX1_noteLine_96 : decode cX1_noteLine 96 = .ok (.iand, 1) := by decide +kernel
theorem dX1_noteLine_97 : decode cX1_noteLine 97 = .ok (.iastore, 1) := by decide +kernel
theorem dX1_noteLine_98 : decode cX1_noteLine 98 = .ok (.aload_n 0, 1) := by decide +kernel
theorem dX1_noteLine_99 : decode cX1_noteLine 99 = .ok (.dup, 1) := by decide +kernel
theorem dX1_noteLine_100 : decode cX1_noteLine 100 = .ok (.getfield 55, 3) := by decide +kernel
theorem dX1_noteLine_103 : decode cX1_noteLine 103 = .ok (.iconst 1, 1) := by decide +kernel
theorem dX1_noteLine_104 : decode cX1_noteLine 104 = .ok (.iadd, 1) := by decide +kernel
theorem dX1_noteLine_105 : decode cX1_noteLine 105 = .ok (.putfield 55, 3) := by decide +kernel
theorem dX1_noteLine_108 : decode cX1_noteLine 108 = .ok (.return_, 1) := by decide +kernel
set_option maxRecDepth 20000 in
theorem ggX1_noteCorner_X0_climb : GoodIn wsX1_noteCorner wsX0_climb := goodIn_r _ [9, 10, 11, 12, 71, 72, 73, 74, 75, 76, 77, 78, 79, 80] (by decide +kernel) (by decide +kernel)
set_option maxRecDepth 20000 in
theorem gX1_noteCorner_X0_climb : GoodIn wsX1_noteCorner (wsV RX1 132 RX0 yX0_climb wsX0_climb) := goodIn_app (goodIn_of _ (by decide +kernel)) ggX1_noteCorner_X0_climb
set_option maxRecDepth 20000 in
theorem ggX1_noteCorner_X0_alongBoth : GoodIn wsX1_noteCorner wsX0_alongBoth := goodIn_r _ [16, 17, 18, 19, 8, 20, 10, 11, 12, 21, 22, 23, 24, 71, 72, 73, 74, 75, 76, 77, 78, 79, 80] (by decide +kernel) (by decide +kernel)
set_option maxRecDepth 20000 in
theorem gX1_noteCorner_X0_alongBoth : GoodIn wsX1_noteCorner (wsV RX1 98 RX0 yX0_alongBoth wsX0_alongBoth) := goodIn_app (goodIn_of _ (by decide +kernel)) ggX1_noteCorner_X0_alongBoth
set_option maxRecDepth 20000 in
theorem ggX1_noteCorner_X3_signs : GoodIn wsX1_noteCorner wsX3_signs := goodIn_r _ [29, 30, 31, 32, 33, 34, 71, 72, 73, 74, 75, 76, 77] (by decide +kernel) (by decide +kernel)
set_option maxRecDepth 20000 in
theorem gX1_noteCorner_X3_signs : GoodIn wsX1_noteCorner (wsV RX1 122 RX3 yX3_signs wsX3_signs) := goodIn_app (goodIn_of _ (by decide +kernel)) ggX1_noteCorner_X3_signs
set_option maxRecDepth 20000 in
theorem ggX1_noteCorner_X1_reach : GoodIn wsX1_noteCorner wsX1_reach := goodIn_r _ [39, 2, 40, 41, 42, 43, 44, 45, 46, 28, 47, 48, 49, 50, 51, 52, 53, 54, 55, 56, 38, 57, 58, 59, 60, 61, 62, 63, 64, 65, 66, 67, 68, 69, 70, 81, 82, 83, 84, 85, 86, 87, 71, 72, 73, 74, 75, 76, 77] (by decide +kernel) (by decide +kernel)
set_option maxRecDepth 20000 in
theorem gX1_noteCorner_X1_reach : GoodIn wsX1_noteCorner (wsV RX1 139 RX1 yX1_reach wsX1_reach) := goodIn_app (goodIn_of _ (by decide +kernel)) ggX1_noteCorner_X1_reach
theorem dX1_noteCorner_0 : decode cX1_noteCorner 0 = .ok (.aload_n 0, 1) := by decide +kernel
theorem dX1_noteCorner_1 : decode cX1_noteCorner 1 = .ok (.getfield 33, 3) := by decide +kernel
theorem dX1_noteCorner_4 : decode cX1_noteCorner 4 = .ok (.aload_n 0, 1) := by decide +kernel
theorem dX1_noteCorner_5 : decode cX1_noteCorner 5 = .ok (.getfield 43, 3) := by decide +kernel
theorem dX1_noteCorner_8 : decode cX1_noteCorner 8 = .ok (.iload_n 3, 1) := by decide +kernel
theorem dX1_noteCorner_9 : decode cX1_noteCorner 9 = .ok (.invokevirtual 132, 3) := by decide +kernel
theorem dX1_noteCorner_12 : decode cX1_noteCorner 12 = .ok (.istore 4, 2) := by decide +kernel
theorem dX1_noteCorner_14 : decode cX1_noteCorner 14 = .ok (.iload 4, 2) := by decide +kernel
theorem dX1_noteCorner_16 : decode cX1_noteCorner 16 = .ok (.ifCond .ne 4, 3) := by decide +kernel
theorem dX1_noteCorner_19 : decode cX1_noteCorner 19 = .ok (.return_, 1) := by decide +kernel
theorem dX1_noteCorner_20 : decode cX1_noteCorner 20 = .ok (.aload_n 0, 1) := by decide +kernel
theorem dX1_noteCorner_21 : decode cX1_noteCorner 21 = .ok (.getfield 37, 3) := by decide +kernel
theorem dX1_noteCorner_24 : decode cX1_noteCorner 24 = .ok (.aload_n 0, 1) := by decide +kernel
theorem dX1_noteCorner_25 : decode cX1_noteCorner 25 = .ok (.getfield 43, 3) := by decide +kernel
theorem dX1_noteCorner_28 : decode cX1_noteCorner 28 = .ok (.iload_n 2, 1) := by decide +kernel
theorem dX1_noteCorner_29 : decode cX1_noteCorner 29 = .ok (.iload_n 3, 1) := by decide +kernel
theorem dX1_noteCorner_30 : decode cX1_noteCorner 30 = .ok (.invokevirtual 98, 3) := by decide +kernel
theorem dX1_noteCorner_33 : decode cX1_noteCorner 33 = .ok (.aload_n 0, 1) := by decide +kernel
theorem dX1_noteCorner_34 : decode cX1_noteCorner 34 = .ok (.getfield 40, 3) := by decide +kernel
theorem dX1_noteCorner_37 : decode cX1_noteCorner 37 = .ok (.aload_n 0, 1) := by decide +kernel
theorem dX1_noteCorner_38 : decode cX1_noteCorner 38 = .ok (.getfield 43, 3) := by decide +kernel
theorem dX1_noteCorner_41 : decode cX1_noteCorner 41 = .ok (.iload_n 3, 1) := by decide +kernel
theorem dX1_noteCorner_42 : decode cX1_noteCorner 42 = .ok (.iload_n 1, 1) := by decide +kernel
theorem dX1_noteCorner_43 : decode cX1_noteCorner 43 = .ok (.invokevirtual 98, 3) := by decide +kernel
theorem dX1_noteCorner_46 : decode cX1_noteCorner 46 = .ok (.iload 4, 2) := by decide +kernel
theorem dX1_noteCorner_48 : decode cX1_noteCorner 48 = .ok (.ifCond .ge 7, 3) := by decide +kernel
theorem dX1_noteCorner_51 : decode cX1_noteCorner 51 = .ok (.iconst (-1), 1) := by decide +kernel
theorem dX1_noteCorner_52 : decode cX1_noteCorner 52 = .ok (.goto 4, 3) := by decide +kernel
theorem dX1_noteCorner_55 : decode cX1_noteCorner 55 = .ok (.iconst 1, 1) := by decide +kernel
theorem dX1_noteCorner_56 : decode cX1_noteCorner 56 = .ok (.istore 5, 2) := by decide +kernel
theorem dX1_noteCorner_58 : decode cX1_noteCorner 58 = .ok (.iload 5, 2) := by decide +kernel
theorem dX1_noteCorner_60 : decode cX1_noteCorner 60 = .ok (.aload_n 0, 1) := by decide +kernel
theorem dX1_noteCorner_61 : decode cX1_noteCorner 61 = .ok (.getfield 43, 3) := by decide +kernel
theorem dX1_noteCorner_64 : decode cX1_noteCorner 64 = .ok (.getfield 136, 3) := by decide +kernel
theorem dX1_noteCorner_67 : decode cX1_noteCorner 67 = .ok (.iload_n 1, 1) := by decide +kernel
theorem dX1_noteCorner_68 : decode cX1_noteCorner 68 = .ok (.iaload, 1) := by decide +kernel
theorem dX1_noteCorner_69 : decode cX1_noteCorner 69 = .ok (.imul, 1) := by decide +kernel
theorem dX1_noteCorner_70 : decode cX1_noteCorner 70 = .ok (.istore 6, 2) := by decide +kernel
theorem dX1_noteCorner_72 : decode cX1_noteCorner 72 = .ok (.iload 5, 2) := by decide +kernel
theorem dX1_noteCorner_74 : decode cX1_noteCorner 74 = .ok (.aload_n 0, 1) := by decide +kernel
theorem dX1_noteCorner_75 : decode cX1_noteCorner 75 = .ok (.getfield 43, 3) := by decide +kernel
theorem dX1_noteCorner_78 : decode cX1_noteCorner 78 = .ok (.getfield 136, 3) := by decide +kernel
theorem dX1_noteCorner_81 : decode cX1_noteCorner 81 = .ok (.iload_n 2, 1) := by decide +kernel
theorem dX1_noteCorner_82 : decode cX1_noteCorner 82 = .ok (.iaload, 1) := by decide +kernel
theorem dX1_noteCorner_83 : decode cX1_noteCorner 83 = .ok (.imul, 1) := by decide +kernel
theorem dX1_noteCorner_84 : decode cX1_noteCorner 84 = .ok (.istore 7, 2) := by decide +kernel
theorem dX1_noteCorner_86 : decode cX1_noteCorner 86 = .ok (.iload 5, 2) := by decide +kernel
theorem dX1_noteCorner_88 : decode cX1_noteCorner 88 = .ok (.aload_n 0, 1) := by decide +kernel
theorem dX1_noteCorner_89 : decode cX1_noteCorner 89 = .ok (.getfield 43, 3) := by decide +kernel
theorem dX1_noteCorner_92 : decode cX1_noteCorner 92 = .ok (.getfield 136, 3) := by decide +kernel
theorem dX1_noteCorner_95 : decode cX1_noteCorner 95 = .ok (.iload_n 3, 1) := by decide +kernel
theorem dX1_noteCorner_96 : decode cX1_noteCorner 96 = .ok (.iaload, 1) := by decide +kernel
theorem dX1_noteCorner_97 : decode cX1_noteCorner 97 = .ok (.imul, 1) := by decide +kernel
theorem dX1_noteCorner_98 : decode cX1_noteCorner 98 = .ok (.istore 8, 2) := by decide +kernel
theorem dX1_noteCorner_100 : decode cX1_noteCorner 100 = .ok (.iload 6, 2) := by decide +kernel
theorem dX1_noteCorner_102 : decode cX1_noteCorner 102 = .ok (.aload_n 0, 1) := by decide +kernel
theorem dX1_noteCorner_103 : decode cX1_noteCorner 103 = .ok (.getfield 37, 3) := by decide +kernel
theorem dX1_noteCorner_106 : decode cX1_noteCorner 106 = .ok (.getfield 113, 3) := by decide +kernel
theorem dX1_noteCorner_109 : decode cX1_noteCorner 109 = .ok (.imul, 1) := by decide +kernel
theorem dX1_noteCorner_110 : decode cX1_noteCorner 110 = .ok (.iload 7, 2) := by decide +kernel
theorem dX1_noteCorner_112 : decode cX1_noteCorner 112 = .ok (.aload_n 0, 1) := by decide +kernel
theorem dX1_noteCorner_113 : decode cX1_noteCorner 113 = .ok (.getfield 40, 3) := by decide +kernel
theorem dX1_noteCorner_116 : decode cX1_noteCorner 116 = .ok (.getfield 113, 3) := by decide +kernel
theorem dX1_noteCorner_119 : decode cX1_noteCorner 119 = .ok (.imul, 1) := by decide +kernel
theorem dX1_noteCorner_120 : decode cX1_noteCorner 120 = .ok (.iadd, 1) := by decide +kernel
theorem dX1_noteCorner_121 : decode cX1_noteCorner 121 = .ok (.iload 8, 2) := by decide +kernel
theorem dX1_noteCorner_123 : decode cX1_noteCorner 123 = .ok (.aload_n 0, 1) := by decide +kernel
theorem dX1_noteCorner_124 : decode cX1_noteCorner 124 = .ok (.getfield 33, 3) := by decide +kernel
theorem dX1_noteCorner_127 : decode cX1_noteCorner 127 = .ok (.getfield 113, 3) := by decide +kernel
theorem dX1_noteCorner_130 : decode cX1_noteCorner 130 = .ok (.imul, 1) := by decide +kernel
theorem dX1_noteCorner_131 : decode cX1_noteCorner 131 = .ok (.iadd, 1) := by decide +kernel
theorem dX1_noteCorner_132 : decode cX1_noteCorner 132 = .ok (.istore 9, 2) := by decide +kernel
theorem dX1_noteCorner_134 : decode cX1_noteCorner 134 = .ok (.iload 6, 2) := by decide +kernel
theorem dX1_noteCorner_136 : decode cX1_noteCorner 136 = .ok (.aload_n 0, 1) := by decide +kernel
theorem dX1_noteCorner_137 : decode cX1_noteCorner 137 = .ok (.getfield 37, 3) := by decide +kernel
theorem dX1_noteCorner_140 : decode cX1_noteCorner 140 = .ok (.getfield 116, 3) := by decide +kernel
theorem dX1_noteCorner_143 : decode cX1_noteCorner 143 = .ok (.imul, 1) := by decide +kernel
theorem dX1_noteCorner_144 : decode cX1_noteCorner 144 = .ok (.iload 7, 2) := by decide +kernel
theorem dX1_noteCorner_146 : decode cX1_noteCorner 146 = .ok (.aload_n 0, 1) := by decide +kernel
theorem dX1_noteCorner_147 : decode cX1_noteCorner 147 = .ok (.getfield 40, 3) := by decide +kernel
theorem dX1_noteCorner_150 : decode cX1_noteCorner 150 = .ok (.getfield 116, 3) := by decide +kernel
theorem dX1_noteCorner_153 : decode cX1_noteCorner 153 = .ok (.imul, 1) := by decide +kernel
theorem dX1_noteCorner_154 : decode cX1_noteCorner 154 = .ok (.iadd, 1) := by decide +kernel
theorem dX1_noteCorner_155 : decode cX1_noteCorner 155 = .ok (.iload 8, 2) := by decide +kernel
theorem dX1_noteCorner_157 : decode cX1_noteCorner 157 = .ok (.aload_n 0, 1) := by decide +kernel
theorem dX1_noteCorner_158 : decode cX1_noteCorner 158 = .ok (.getfield 33, 3) := by decide +kernel
theorem dX1_noteCorner_161 : decode cX1_noteCorner 161 = .ok (.getfield 116, 3) := by decide +kernel
theorem dX1_noteCorner_164 : decode cX1_noteCorner 164 = .ok (.imul, 1) := by decide +kernel
theorem dX1_noteCorner_165 : decode cX1_noteCorner 165 = .ok (.iadd, 1) := by decide +kernel
theorem dX1_noteCorner_166 : decode cX1_noteCorner 166 = .ok (.istore 10, 2) := by decide +kernel
theorem dX1_noteCorner_168 : decode cX1_noteCorner 168 = .ok (.iload 6, 2) := by decide +kernel
theorem dX1_noteCorner_170 : decode cX1_noteCorner 170 = .ok (.aload_n 0, 1) := by decide +kernel
theorem dX1_noteCorner_171 : decode cX1_noteCorner 171 = .ok (.getfield 37, 3) := by decide +kernel
theorem dX1_noteCorner_174 : decode cX1_noteCorner 174 = .ok (.getfield 119, 3) := by decide +kernel
theorem dX1_noteCorner_177 : decode cX1_noteCorner 177 = .ok (.imul, 1) := by decide +kernel
theorem dX1_noteCorner_178 : decode cX1_noteCorner 178 = .ok (.iload 7, 2) := by decide +kernel
theorem dX1_noteCorner_180 : decode cX1_noteCorner 180 = .ok (.aload_n 0, 1) := by decide +kernel
theorem dX1_noteCorner_181 : decode cX1_noteCorner 181 = .ok (.getfield 40, 3) := by decide +kernel
theorem dX1_noteCorner_184 : decode cX1_noteCorner 184 = .ok (.getfield 119, 3) := by decide +kernel
theorem dX1_noteCorner_187 : decode cX1_noteCorner 187 = .ok (.imul, 1) := by decide +kernel
theorem dX1_noteCorner_188 : decode cX1_noteCorner 188 = .ok (.iadd, 1) := by decide +kernel
theorem dX1_noteCorner_189 : decode cX1_noteCorner 189 = .ok (.iload 8, 2) := by decide +kernel
theorem dX1_noteCorner_191 : decode cX1_noteCorner 191 = .ok (.aload_n 0, 1) := by decide +kernel
theorem dX1_noteCorner_192 : decode cX1_noteCorner 192 = .ok (.getfield 33, 3) := by decide +kernel
theorem dX1_noteCorner_195 : decode cX1_noteCorner 195 = .ok (.getfield 119, 3) := by decide +kernel
theorem dX1_noteCorner_198 : decode cX1_noteCorner 198 = .ok (.imul, 1) := by decide +kernel
theorem dX1_noteCorner_199 : decode cX1_noteCorner 199 = .ok (.iadd, 1) := by decide +kernel
theorem dX1_noteCorner_200 : decode cX1_noteCorner 200 = .ok (.istore 11, 2) := by decide +kernel
theorem dX1_noteCorner_202 : decode cX1_noteCorner 202 = .ok (.aload_n 0, 1) := by decide +kernel
theorem dX1_noteCorner_203 : decode cX1_noteCorner 203 = .ok (.aload_n 0, 1) := by decide +kernel
theorem dX1_noteCorner_204 : decode cX1_noteCorner 204 = .ok (.getfield 43, 3) := by decide +kernel
theorem dX1_noteCorner_207 : decode cX1_noteCorner 207 = .ok (.iload 9, 2) := by decide +kernel
theorem dX1_noteCorner_209 : decode cX1_noteCorner 209 = .ok (.iload 10, 2) := by decide +kernel
theorem dX1_noteCorner_211 : decode cX1_noteCorner 211 = .ok (.iload 11, 2) := by decide +kernel
theorem dX1_noteCorner_213 : decode cX1_noteCorner 213 = .ok (.iload 5, 2) := by decide +kernel
theorem dX1_noteCorner_215 : decode cX1_noteCorner 215 = .ok (.iload 4, 2) := by decide +kernel
theorem dX1_noteCorner_217 : decode cX1_noteCorner 217 = .ok (.imul, 1) := by decide +kernel
theorem dX1_noteCorner_218 : decode cX1_noteCorner 218 = .ok (.invokevirtual 122, 3) := by decide +kernel
theorem dX1_noteCorner_221 : decode cX1_noteCorner 221 = .ok (.invokevirtual 139, 3) := by decide +kernel
theorem dX1_noteCorner_224 : decode cX1_noteCorner 224 = .ok (.return_, 1) := by decide +kernel
set_option maxRecDepth 20000 in
theorem ggX1_reach_X3_rowOf : GoodIn wsX1_reach wsX3_rowOf := goodIn_r _ [10, 11, 12, 13, 14, 15, 16, 42, 43, 44, 45, 46, 47, 48] (by decide +kernel) (by decide +kernel)
set_option maxRecDepth 20000 in
theorem gX1_reach_X3_rowOf : GoodIn wsX1_reach (wsV RX1 142 RX3 yX3_rowOf wsX3_rowOf) := goodIn_app (goodIn_of _ (by decide +kernel)) ggX1_reach_X3_rowOf
set_option maxRecDepth 20000 in
theorem ggX1_reach_X1_isMarked : GoodIn wsX1_reach wsX1_isMarked := goodIn_r _ [21, 3, 22, 23, 24, 25, 26, 27, 28, 29, 30, 31, 32, 33, 34] (by decide +kernel) (by decide +kernel)
set_option maxRecDepth 20000 in
theorem gX1_reach_X1_isMarked : GoodIn wsX1_reach (wsV RX1 145 RX1 yX1_isMarked wsX1_isMarked) := goodIn_app (goodIn_of _ (by decide +kernel)) ggX1_reach_X1_isMarked
set_option maxRecDepth 20000 in
theorem ggX1_reach_X5_onMask : GoodIn wsX1_reach wsX5_onMask := goodIn_r _ [14] (by decide +kernel) (by decide +kernel)
set_option maxRecDepth 20000 in
theorem gX1_reach_X5_onMask_n126 : GoodIn wsX1_reach (wsX5_onMask) := ggX1_reach_X5_onMask
theorem dX1_reach_0 : decode cX1_reach 0 = .ok (.aload_n 0, 1) := by decide +kernel
theorem dX1_reach_1 : decode cX1_reach 1 = .ok (.getfield 43, 3) := by decide +kernel
theorem dX1_reach_4 : decode cX1_reach 4 = .ok (.iload_n 1, 1) := by decide +kernel
theorem dX1_reach_5 : decode cX1_reach 5 = .ok (.invokevirtual 142, 3) := by decide +kernel
theorem dX1_reach_8 : decode cX1_reach 8 = .ok (.istore_n 2, 1) := by decide +kernel
theorem dX1_reach_9 : decode cX1_reach 9 = .ok (.aload_n 0, 1) := by decide +kernel
theorem dX1_reach_10 : decode cX1_reach 10 = .ok (.iload_n 2, 1) := by decide +kernel
theorem dX1_reach_11 : decode cX1_reach 11 = .ok (.invokevirtual 145, 3) := by decide +kernel
theorem dX1_reach_14 : decode cX1_reach 14 = .ok (.ifCond .ne 13, 3) := by decide +kernel
theorem dX1_reach_17 : decode cX1_reach 17 = .ok (.aload_n 0, 1) := by decide +kernel
theorem dX1_reach_18 : decode cX1_reach 18 = .ok (.getfield 51, 3) := by decide +kernel
theorem dX1_reach_21 : decode cX1_reach 21 = .ok (.sipush 577, 3) := by decide +kernel
theorem dX1_reach_24 : decode cX1_reach 24 = .ok (.if_icmp .lt 4, 3) := by decide +kernel
theorem dX1_reach_27 : decode cX1_reach 27 = .ok (.return_, 1) := by decide +kernel
theorem dX1_reach_28 : decode cX1_reach 28 = .ok (.aload_n 0, 1) := by decide +kernel
theorem dX1_reach_29 : decode cX1_reach 29 = .ok (.getfield 9, 3) := by decide +kernel
theorem dX1_reach_32 : decode cX1_reach 32 = .ok (.iload_n 2, 1) := by decide +kernel
theorem dX1_reach_33 : decode cX1_reach 33 = .ok (.iconst 5, 1) := by decide +kernel
theorem dX1_reach_34 : decode cX1_reach 34 = .ok (.ishr, 1) := by decide +kernel
theorem dX1_reach_35 : decode cX1_reach 35 = .ok (.dup2, 1) := by decide +kernel
theorem dX1_reach_36 : decode cX1_reach 36 = .ok (.iaload, 1) := by decide +kernel
theorem dX1_reach_37 : decode cX1_reach 37 = .ok (.iconst 1, 1) := by decide +kernel
theorem dX1_reach_38 : decode cX1_reach 38 = .ok (.iload_n 2, 1) := by decide +kernel
theorem dX1_reach_39 : decode cX1_reach 39 = .ok (.bipush 31, 2) := by decide +kernel
theorem dX1_reach_41 : decode cX1_reach 41 = .ok (.iand, 1) := by decide +kernel
theorem dX1_reach_42 : decode cX1_reach 42 = .ok (.ishl, 1) := by decide +kernel
theorem dX1_reach_43 : decode cX1_reach 43 = .ok (.ior, 1) := by decide +kernel
theorem dX1_reach_44 : decode cX1_reach 44 = .ok (.iastore, 1) := by decide +kernel
theorem dX1_reach_45 : decode cX1_reach 45 = .ok (.aload_n 0, 1) := by decide +kernel
theorem dX1_reach_46 : decode cX1_reach 46 = .ok (.getfield 15, 3) := by decide +kernel
theorem dX1_reach_49 : decode cX1_reach 49 = .ok (.aload_n 0, 1) := by decide +kernel
theorem dX1_reach_50 : decode cX1_reach 50 = .ok (.getfield 51, 3) := by decide +kernel
theorem dX1_reach_53 : decode cX1_reach 53 = .ok (.iload_n 1, 1) := by decide +kernel
theorem dX1_reach_54 : decode cX1_reach 54 = .ok (.iastore, 1) := by decide +kernel
theorem dX1_reach_55 : decode cX1_reach 55 = .ok (.aload_n 0, 1) := by decide +kernel
theorem dX1_reach_56 : decode cX1_reach 56 = .ok (.dup, 1) := by decide +kernel
theorem dX1_reach_57 : decode cX1_reach 57 = .ok (.getfield 51, 3) := by decide +kernel
theorem dX1_reach_60 : decode cX1_reach 60 = .ok (.iconst 1, 1) := by decide +kernel
theorem dX1_reach_61 : decode cX1_reach 61 = .ok (.iadd, 1) := by decide +kernel
theorem dX1_reach_62 : decode cX1_reach 62 = .ok (.putfield 51, 3) := by decide +kernel
theorem dX1_reach_65 : decode cX1_reach 65 = .ok (.aload_n 0, 1) := by decide +kernel
theorem dX1_reach_66 : decode cX1_reach 66 = .ok (.getfield 47, 3) := by decide +kernel
theorem dX1_reach_69 : decode cX1_reach 69 = .ok (.getfield 149, 3) := by decide +kernel
theorem dX1_reach_72 : decode cX1_reach 72 = .ok (.iload_n 1, 1) := by decide +kernel
theorem dX1_reach_73 : decode cX1_reach 73 = .ok (.invokestatic 126, 3) := by decide +kernel
theorem dX1_reach_76 : decode cX1_reach 76 = .ok (.iconst 1, 1) := by decide +kernel
theorem dX1_reach_77 : decode cX1_reach 77 = .ok (.bastore, 1) := by decide +kernel
theorem dX1_reach_78 : decode cX1_reach 78 = .ok (.return_, 1) := by decide +kernel
theorem dX1_isMarked_0 : decode cX1_isMarked 0 = .ok (.aload_n 0, 1) := by decide +kernel
theorem dX1_isMarked_1 : decode cX1_isMarked 1 = .ok (.getfield 9, 3) := by decide +kernel
theorem dX1_isMarked_4 : decode cX1_isMarked 4 = .ok (.iload_n 1, 1) := by decide +kernel
theorem dX1_isMarked_5 : decode cX1_isMarked 5 = .ok (.iconst 5, 1) := by decide +kernel
theorem dX1_isMarked_6 : decode cX1_isMarked 6 = .ok (.ishr, 1) := by decide +kernel
theorem dX1_isMarked_7 : decode cX1_isMarked 7 = .ok (.iaload, 1) := by decide +kernel
theorem dX1_isMarked_8 : decode cX1_isMarked 8 = .ok (.iload_n 1, 1) := by decide +kernel
theorem dX1_isMarked_9 : decode cX1_isMarked 9 = .ok (.bipush 31, 2) := by decide +kernel
theorem dX1_isMarked_11 : decode cX1_isMarked 11 = .ok (.iand, 1) := by decide +kernel
theorem dX1_isMarked_12 : decode cX1_isMarked 12 = .ok (.iushr, 1) := by decide +kernel
theorem dX1_isMarked_13 : decode cX1_isMarked 13 = .ok (.iconst 1, 1) := by decide +kernel
theorem dX1_isMarked_14 : decode cX1_isMarked 14 = .ok (.iand, 1) := by decide +kernel
theorem dX1_isMarked_15 : decode cX1_isMarked 15 = .ok (.iconst 1, 1) := by decide +kernel
theorem dX1_isMarked_16 : decode cX1_isMarked 16 = .ok (.if_icmp .ne 7, 3) := by decide +kernel
theorem dX1_isMarked_19 : decode cX1_isMarked 19 = .ok (.iconst 1, 1) := by decide +kernel
theorem dX1_isMarked_20 : decode cX1_isMarked 20 = .ok (.goto 4, 3) := by decide +kernel
theorem dX1_isMarked_23 : decode cX1_isMarked 23 = .ok (.iconst 0, 1) := by decide +kernel
theorem dX1_isMarked_24 : decode cX1_isMarked 24 = .ok (.ireturn, 1) := by decide +kernel
set_option maxRecDepth 20000 in
theorem ggX1_moveFrom_X5_onMask : GoodIn wsX1_moveFrom wsX5_onMask := goodIn_r _ [7] (by decide +kernel) (by decide +kernel)
set_option maxRecDepth 20000 in
theorem gX1_moveFrom_X5_onMask_n126 : GoodIn wsX1_moveFrom (wsX5_onMask) := ggX1_moveFrom_X5_onMask
set_option maxRecDepth 20000 in
theorem ggX1_moveFrom_X5_aboveMask : GoodIn wsX1_moveFrom wsX5_aboveMask := goodIn_r _ [9] (by decide +kernel) (by decide +kernel)
set_option maxRecDepth 20000 in
theorem gX1_moveFrom_X5_aboveMask_n129 : GoodIn wsX1_moveFrom (wsX5_aboveMask) := ggX1_moveFrom_X5_aboveMask
set_option maxRecDepth 20000 in
theorem ggX1_moveFrom_X1_reach : GoodIn wsX1_moveFrom wsX1_reach := goodIn_r _ [14, 15, 16, 17, 18, 4, 19, 20, 21, 22, 23, 24, 5, 6, 7, 8, 9, 25, 26, 27, 13, 28, 29, 30, 31, 32, 33, 34, 35, 36, 37, 38, 39, 40, 41, 42, 43, 44, 45, 46, 47, 48, 49, 50, 51, 52, 53, 54, 55] (by decide +kernel) (by decide +kernel)
set_option maxRecDepth 20000 in
theorem gX1_moveFrom_X1_reach : GoodIn wsX1_moveFrom (wsV RX1 139 RX1 yX1_reach wsX1_reach) := goodIn_app (goodIn_of _ (by decide +kernel)) ggX1_moveFrom_X1_reach
theorem dX1_moveFrom_0 : decode cX1_moveFrom 0 = .ok (.iload_n 1, 1) := by decide +kernel
theorem dX1_moveFrom_1 : decode cX1_moveFrom 1 = .ok (.invokestatic 126, 3) := by decide +kernel
theorem dX1_moveFrom_4 : decode cX1_moveFrom 4 = .ok (.istore_n 2, 1) := by decide +kernel
theorem dX1_moveFrom_5 : decode cX1_moveFrom 5 = .ok (.iload_n 1, 1) := by decide +kernel
theorem dX1_moveFrom_6 : decode cX1_moveFrom 6 = .ok (.invokestatic 129, 3) := by decide +kernel
theorem dX1_moveFrom_9 : decode cX1_moveFrom 9 = .ok (.istore_n 3, 1) := by decide +kernel
theorem dX1_moveFrom_10 : decode cX1_moveFrom 10 = .ok (.iload_n 2, 1) := by decide +kernel
theorem dX1_moveFrom_11 : decode cX1_moveFrom 11 = .ok (.ifCond .ne 4, 3) := by decide +kernel
theorem dX1_moveFrom_14 : decode cX1_moveFrom 14 = .ok (.return_, 1) := by decide +kernel
theorem dX1_moveFrom_15 : decode cX1_moveFrom 15 = .ok (.iconst 0, 1) := by decide +kernel
theorem dX1_moveFrom_16 : decode cX1_moveFrom 16 = .ok (.istore 4, 2) := by decide +kernel
theorem dX1_moveFrom_18 : decode cX1_moveFrom 18 = .ok (.iload 4, 2) := by decide +kernel
theorem dX1_moveFrom_20 : decode cX1_moveFrom 20 = .ok (.aload_n 0, 1) := by decide +kernel
theorem dX1_moveFrom_21 : decode cX1_moveFrom 21 = .ok (.getfield 55, 3) := by decide +kernel
theorem dX1_moveFrom_24 : decode cX1_moveFrom 24 = .ok (.if_icmp .ge 105, 3) := by decide +kernel
theorem dX1_moveFrom_27 : decode cX1_moveFrom 27 = .ok (.iload_n 2, 1) := by decide +kernel
theorem dX1_moveFrom_28 : decode cX1_moveFrom 28 = .ok (.aload_n 0, 1) := by decide +kernel
theorem dX1_moveFrom_29 : decode cX1_moveFrom 29 = .ok (.getfield 24, 3) := by decide +kernel
theorem dX1_moveFrom_32 : decode cX1_moveFrom 32 = .ok (.iload 4, 2) := by decide +kernel
theorem dX1_moveFrom_34 : decode cX1_moveFrom 34 = .ok (.iaload, 1) := by decide +kernel
theorem dX1_moveFrom_35 : decode cX1_moveFrom 35 = .ok (.aload_n 0, 1) := by decide +kernel
theorem dX1_moveFrom_36 : decode cX1_moveFrom 36 = .ok (.getfield 27, 3) := by decide +kernel
theorem dX1_moveFrom_39 : decode cX1_moveFrom 39 = .ok (.iload 4, 2) := by decide +kernel
theorem dX1_moveFrom_41 : decode cX1_moveFrom 41 = .ok (.iaload, 1) := by decide +kernel
theorem dX1_moveFrom_42 : decode cX1_moveFrom 42 = .ok (.ior, 1) := by decide +kernel
theorem dX1_moveFrom_43 : decode cX1_moveFrom 43 = .ok (.iconst (-1), 1) := by decide +kernel
theorem dX1_moveFrom_44 : decode cX1_moveFrom 44 = .ok (.ixor, 1) := by decide +kernel
theorem dX1_moveFrom_45 : decode cX1_moveFrom 45 = .ok (.iand, 1) := by decide +kernel
theorem dX1_moveFrom_46 : decode cX1_moveFrom 46 = .ok (.istore 5, 2) := by decide +kernel
theorem dX1_moveFrom_48 : decode cX1_moveFrom 48 = .ok (.aload_n 0, 1) := by decide +kernel
theorem dX1_moveFrom_49 : decode cX1_moveFrom 49 = .ok (.getfield 47, 3) := by decide +kernel
theorem dX1_moveFrom_52 : decode cX1_moveFrom 52 = .ok (.getfield 153, 3) := by decide +kernel
theorem dX1_moveFrom_55 : decode cX1_moveFrom 55 = .ok (.iload 5, 2) := by decide +kernel
theorem dX1_moveFrom_57 : decode cX1_moveFrom 57 = .ok (.iaload, 1) := by decide +kernel
theorem dX1_moveFrom_58 : decode cX1_moveFrom 58 = .ok (.aload_n 0, 1) := by decide +kernel
theorem dX1_moveFrom_59 : decode cX1_moveFrom 59 = .ok (.getfield 47, 3) := by decide +kernel
theorem dX1_moveFrom_62 : decode cX1_moveFrom 62 = .ok (.getfield 153, 3) := by decide +kernel
theorem dX1_moveFrom_65 : decode cX1_moveFrom 65 = .ok (.iload_n 2, 1) := by decide +kernel
theorem dX1_moveFrom_66 : decode cX1_moveFrom 66 = .ok (.iaload, 1) := by decide +kernel
theorem dX1_moveFrom_67 : decode cX1_moveFrom 67 = .ok (.iconst 1, 1) := by decide +kernel
theorem dX1_moveFrom_68 : decode cX1_moveFrom 68 = .ok (.isub, 1) := by decide +kernel
theorem dX1_moveFrom_69 : decode cX1_moveFrom 69 = .ok (.if_icmp .eq 6, 3) := by decide +kernel
theorem dX1_moveFrom_72 : decode cX1_moveFrom 72 = .ok (.goto 51, 3) := by decide +kernel
theorem dX1_moveFrom_75 : decode cX1_moveFrom 75 = .ok (.aload_n 0, 1) := by decide +kernel
theorem dX1_moveFrom_76 : decode cX1_moveFrom 76 = .ok (.iload_n 3, 1) := by decide +kernel
theorem dX1_moveFrom_77 : decode cX1_moveFrom 77 = .ok (.iload_n 2, 1) := by decide +kernel
theorem dX1_moveFrom_78 : decode cX1_moveFrom 78 = .ok (.aload_n 0, 1) := by decide +kernel
theorem dX1_moveFrom_79 : decode cX1_moveFrom 79 = .ok (.getfield 24, 3) := by decide +kernel
theorem dX1_moveFrom_82 : decode cX1_moveFrom 82 = .ok (.iload 4, 2) := by decide +kernel
theorem dX1_moveFrom_84 : decode cX1_moveFrom 84 = .ok (.iaload, 1) := by decide +kernel
theorem dX1_moveFrom_85 : decode cX1_moveFrom 85 = .ok (.iand, 1) := by decide +kernel
theorem dX1_moveFrom_86 : decode cX1_moveFrom 86 = .ok (.ior, 1) := by decide +kernel
theorem dX1_moveFrom_87 : decode cX1_moveFrom 87 = .ok (.bipush 8, 2) := by decide +kernel
theorem dX1_moveFrom_89 : decode cX1_moveFrom 89 = .ok (.ishl, 1) := by decide +kernel
theorem dX1_moveFrom_90 : decode cX1_moveFrom 90 = .ok (.iload 5, 2) := by decide +kernel
theorem dX1_moveFrom_92 : decode cX1_moveFrom 92 = .ok (.ior, 1) := by decide +kernel
theorem dX1_moveFrom_93 : decode cX1_moveFrom 93 = .ok (.invokevirtual 139, 3) := by decide +kernel
theorem dX1_moveFrom_96 : decode cX1_moveFrom 96 = .ok (.aload_n 0, 1) := by decide +kernel
theorem dX1_moveFrom_97 : decode cX1_moveFrom 97 = .ok (.iload_n 3, 1) := by decide +kernel
theorem dX1_moveFrom_98 : decode cX1_moveFrom 98 = .ok (.iload_n 2, 1) := by decide +kernel
theorem dX1_moveFrom_99 : decode cX1_moveFrom 99 = .ok (.aload_n 0, 1) := by decide +kernel
theorem dX1_moveFrom_100 : decode cX1_moveFrom 100 = .ok (.getfield 27, 3) := by decide +kernel
theorem dX1_moveFrom_103 : decode cX1_moveFrom 103 = .ok (.iload 4, 2) := by decide +kernel
theorem dX1_moveFrom_105 : decode cX1_moveFrom 105 = .ok (.iaload, 1) := by decide +kernel
theorem dX1_moveFrom_106 : decode cX1_moveFrom 106 = .ok (.iand, 1) := by decide +kernel
theorem dX1_moveFrom_107 : decode cX1_moveFrom 107 = .ok (.ior, 1) := by decide +kernel
theorem dX1_moveFrom_108 : decode cX1_moveFrom 108 = .ok (.bipush 8, 2) := by decide +kernel
theorem dX1_moveFrom_110 : decode cX1_moveFrom 110 = .ok (.ishl, 1) := by decide +kernel
theorem dX1_moveFrom_111 : decode cX1_moveFrom 111 = .ok (.iload 5, 2) := by decide +kernel
theorem dX1_moveFrom_113 : decode cX1_moveFrom 113 = .ok (.ior, 1) := by decide +kernel
theorem dX1_moveFrom_114 : decode cX1_moveFrom 114 = .ok (.invokevirtual 139, 3) := by decide +kernel
theorem dX1_moveFrom_117 : decode cX1_moveFrom 117 = .ok (.iload 5, 2) := by decide +kernel
theorem dX1_moveFrom_119 : decode cX1_moveFrom 119 = .ok (.ifCond .ne 4, 3) := by decide +kernel
theorem dX1_moveFrom_122 : decode cX1_moveFrom 122 = .ok (.return_, 1) := by decide +kernel
theorem dX1_moveFrom_123 : decode cX1_moveFrom 123 = .ok (.iinc 4 1, 3) := by decide +kernel
theorem dX1_moveFrom_126 : decode cX1_moveFrom 126 = .ok (.goto (-108), 3) := by decide +kernel
theorem dX1_moveFrom_129 : decode cX1_moveFrom 129 = .ok (.return_, 1) := by decide +kernel
set_option maxRecDepth 20000 in
theorem ggX1_sortRows_X1_isMarked : GoodIn wsX1_sortRows wsX1_isMarked := goodIn_r _ [10, 11, 15, 16, 17, 18, 19, 20, 21, 22, 23, 24, 25, 26, 27] (by decide +kernel) (by decide +kernel)
set_option maxRecDepth 20000 in
theorem gX1_sortRows_X1_isMarked : GoodIn wsX1_sortRows (wsV RX1 145 RX1 yX1_isMarked wsX1_isMarked) := goodIn_app (goodIn_of _ (by decide +kernel)) ggX1_sortRows_X1_isMarked
set_option maxRecDepth 20000 in
theorem ggX1_sortRows_X5_maskOf : GoodIn wsX1_sortRows wsX5_maskOf := goodIn_r _ [14] (by decide +kernel) (by decide +kernel)
set_option maxRecDepth 20000 in
theorem gX1_sortRows_X5_maskOf_n159 : GoodIn wsX1_sortRows (wsX5_maskOf) := ggX1_sortRows_X5_maskOf
theorem dX1_sortRows_0 : decode cX1_sortRows 0 = .ok (.iconst 0, 1) := by decide +kernel
theorem dX1_sortRows_1 : decode cX1_sortRows 1 = .ok (.istore_n 1, 1) := by decide +kernel
theorem dX1_sortRows_2 : decode cX1_sortRows 2 = .ok (.iconst 0, 1) := by decide +kernel
theorem dX1_sortRows_3 : decode cX1_sortRows 3 = .ok (.istore_n 2, 1) := by decide +kernel
theorem dX1_sortRows_4 : decode cX1_sortRows 4 = .ok (.iload_n 2, 1) := by decide +kernel
theorem dX1_sortRows_5 : decode cX1_sortRows 5 = .ok (.sipush 6561, 3) := by decide +kernel
theorem dX1_sortRows_8 : decode cX1_sortRows 8 = .ok (.if_icmp .ge 62, 3) := by decide +kernel
theorem dX1_sortRows_11 : decode cX1_sortRows 11 = .ok (.iload_n 1, 1) := by decide +kernel
theorem dX1_sortRows_12 : decode cX1_sortRows 12 = .ok (.aload_n 0, 1) := by decide +kernel
theorem dX1_sortRows_13 : decode cX1_sortRows 13 = .ok (.getfield 51, 3) := by decide +kernel
theorem dX1_sortRows_16 : decode cX1_sortRows 16 = .ok (.if_icmp .ge 54, 3) := by decide +kernel
theorem dX1_sortRows_19 : decode cX1_sortRows 19 = .ok (.aload_n 0, 1) := by decide +kernel
theorem dX1_sortRows_20 : decode cX1_sortRows 20 = .ok (.iload_n 2, 1) := by decide +kernel
theorem dX1_sortRows_21 : decode cX1_sortRows 21 = .ok (.invokevirtual 145, 3) := by decide +kernel
theorem dX1_sortRows_24 : decode cX1_sortRows 24 = .ok (.ifCond .eq 40, 3) := by decide +kernel
theorem dX1_sortRows_27 : decode cX1_sortRows 27 = .ok (.aload_n 0, 1) := by decide +kernel
theorem dX1_sortRows_28 : decode cX1_sortRows 28 = .ok (.getfield 18, 3) := by decide +kernel
theorem dX1_sortRows_31 : decode cX1_sortRows 31 = .ok (.iload_n 1, 1) := by decide +kernel
theorem dX1_sortRows_32 : decode cX1_sortRows 32 = .ok (.iload_n 2, 1) := by decide +kernel
theorem dX1_sortRows_33 : decode cX1_sortRows 33 = .ok (.iastore, 1) := by decide +kernel
theorem dX1_sortRows_34 : decode cX1_sortRows 34 = .ok (.aload_n 0, 1) := by decide +kernel
theorem dX1_sortRows_35 : decode cX1_sortRows 35 = .ok (.getfield 21, 3) := by decide +kernel
theorem dX1_sortRows_38 : decode cX1_sortRows 38 = .ok (.iload_n 1, 1) := by decide +kernel
theorem dX1_sortRows_39 : decode cX1_sortRows 39 = .ok (.aload_n 0, 1) := by decide +kernel
theorem dX1_sortRows_40 : decode cX1_sortRows 40 = .ok (.getfield 43, 3) := by decide +kernel
theorem dX1_sortRows_43 : decode cX1_sortRows 43 = .ok (.getfield 156, 3) := by decide +kernel
theorem dX1_sortRows_46 : decode cX1_sortRows 46 = .ok (.aload_n 0, 1) := by decide +kernel
theorem dX1_sortRows_47 : decode cX1_sortRows 47 = .ok (.getfield 47, 3) := by decide +kernel
theorem dX1_sortRows_50 : decode cX1_sortRows 50 = .ok (.getfield 153, 3) := by decide +kernel
theorem dX1_sortRows_53 : decode cX1_sortRows 53 = .ok (.iload_n 2, 1) := by decide +kernel
theorem dX1_sortRows_54 : decode cX1_sortRows 54 = .ok (.iconst 1, 1) := by decide +kernel
theorem dX1_sortRows_55 : decode cX1_sortRows 55 = .ok (.invokestatic 159, 3) := by decide +kernel
theorem dX1_sortRows_58 : decode cX1_sortRows 58 = .ok (.iaload, 1) := by decide +kernel
theorem dX1_sortRows_59 : decode cX1_sortRows 59 = .ok (.isub, 1) := by decide +kernel
theorem dX1_sortRows_60 : decode cX1_sortRows 60 = .ok (.iastore, 1) := by decide +kernel
theorem dX1_sortRows_61 : decode cX1_sortRows 61 = .ok (.iinc 1 1, 3) := by decide +kernel
theorem dX1_sortRows_64 : decode cX1_sortRows 64 = .ok (.iinc 2 1, 3) := by decide +kernel
theorem dX1_sortRows_67 : decode cX1_sortRows 67 = .ok (.goto (-63), 3) := by decide +kernel
theorem dX1_sortRows_70 : decode cX1_sortRows 70 = .ok (.return_, 1) := by decide +kernel
set_option maxRecDepth 20000 in
theorem ggX1_hasFace_X1_isMarked : GoodIn wsX1_hasFace wsX1_isMarked := goodIn_r _ [5, 6, 7, 8, 9, 10, 11, 12, 13, 14, 15, 16, 17, 18, 19] (by decide +kernel) (by decide +kernel)
set_option maxRecDepth 20000 in
theorem gX1_hasFace_X1_isMarked : GoodIn wsX1_hasFace (wsV RX1 145 RX1 yX1_isMarked wsX1_isMarked) := goodIn_app (goodIn_of _ (by decide +kernel)) ggX1_hasFace_X1_isMarked
theorem dX1_hasFace_0 : decode cX1_hasFace 0 = .ok (.iload_n 1, 1) := by decide +kernel
theorem dX1_hasFace_1 : decode cX1_hasFace 1 = .ok (.ifCond .lt 22, 3) := by decide +kernel
theorem dX1_hasFace_4 : decode cX1_hasFace 4 = .ok (.iload_n 1, 1) := by decide +kernel
theorem dX1_hasFace_5 : decode cX1_hasFace 5 = .ok (.sipush 6561, 3) := by decide +kernel
theorem dX1_hasFace_8 : decode cX1_hasFace 8 = .ok (.if_icmp .ge 15, 3) := by decide +kernel
theorem dX1_hasFace_11 : decode cX1_hasFace 11 = .ok (.aload_n 0, 1) := by decide +kernel
theorem dX1_hasFace_12 : decode cX1_hasFace 12 = .ok (.iload_n 1, 1) := by decide +kernel
theorem dX1_hasFace_13 : decode cX1_hasFace 13 = .ok (.invokevirtual 145, 3) := by decide +kernel
theorem dX1_hasFace_16 : decode cX1_hasFace 16 = .ok (.ifCond .eq 7, 3) := by decide +kernel
theorem dX1_hasFace_19 : decode cX1_hasFace 19 = .ok (.iconst 1, 1) := by decide +kernel
theorem dX1_hasFace_20 : decode cX1_hasFace 20 = .ok (.goto 4, 3) := by decide +kernel
theorem dX1_hasFace_23 : decode cX1_hasFace 23 = .ok (.iconst 0, 1) := by decide +kernel
theorem dX1_hasFace_24 : decode cX1_hasFace 24 = .ok (.ireturn, 1) := by decide +kernel
set_option maxRecDepth 20000 in
theorem ggX1_hasRoom_X1_hasFace : GoodIn wsX1_hasRoom wsX1_hasFace := goodIn_r _ [5, 6, 7, 8, 4, 9, 10, 14, 15, 16, 17, 18, 19, 20, 21, 22, 23, 24, 25, 26] (by decide +kernel) (by decide +kernel)
set_option maxRecDepth 20000 in
theorem gX1_hasRoom_X1_hasFace : GoodIn wsX1_hasRoom (wsV RX1 163 RX1 yX1_hasFace wsX1_hasFace) := goodIn_app (goodIn_of _ (by decide +kernel)) ggX1_hasRoom_X1_hasFace
set_option maxRecDepth 20000 in
theorem ggX1_hasRoom_X5_maskOf : GoodIn wsX1_hasRoom wsX5_maskOf := goodIn_r _ [13] (by decide +kernel) (by decide +kernel)
set_option maxRecDepth 20000 in
theorem gX1_hasRoom_X5_maskOf_n159 : GoodIn wsX1_hasRoom (wsX5_maskOf) := ggX1_hasRoom_X5_maskOf
theorem dX1_hasRoom_0 : decode cX1_hasRoom 0 = .ok (.aload_n 0, 1) := by decide +kernel
theorem dX1_hasRoom_1 : decode cX1_hasRoom 1 = .ok (.iload_n 1, 1) := by decide +kernel
theorem dX1_hasRoom_2 : decode cX1_hasRoom 2 = .ok (.invokevirtual 163, 3) := by decide +kernel
theorem dX1_hasRoom_5 : decode cX1_hasRoom 5 = .ok (.ifCond .eq 15, 3) := by decide +kernel
theorem dX1_hasRoom_8 : decode cX1_hasRoom 8 = .ok (.iload_n 1, 1) := by decide +kernel
theorem dX1_hasRoom_9 : decode cX1_hasRoom 9 = .ok (.iconst 1, 1) := by decide +kernel
theorem dX1_hasRoom_10 : decode cX1_hasRoom 10 = .ok (.invokestatic 159, 3) := by decide +kernel
theorem dX1_hasRoom_13 : decode cX1_hasRoom 13 = .ok (.ifCond .ne 7, 3) := by decide +kernel
theorem dX1_hasRoom_16 : decode cX1_hasRoom 16 = .ok (.iconst 1, 1) := by decide +kernel
theorem dX1_hasRoom_17 : decode cX1_hasRoom 17 = .ok (.goto 4, 3) := by decide +kernel
theorem dX1_hasRoom_20 : decode cX1_hasRoom 20 = .ok (.iconst 0, 1) := by decide +kernel
theorem dX1_hasRoom_21 : decode cX1_hasRoom 21 = .ok (.ireturn, 1) := by decide +kernel
theorem dX1_countOfWidth_0 : decode cX1_countOfWidth 0 = .ok (.iconst 0, 1) := by decide +kernel
theorem dX1_countOfWidth_1 : decode cX1_countOfWidth 1 = .ok (.istore_n 2, 1) := by decide +kernel
theorem dX1_countOfWidth_2 : decode cX1_countOfWidth 2 = .ok (.iconst 0, 1) := by decide +kernel
theorem dX1_countOfWidth_3 : decode cX1_countOfWidth 3 = .ok (.istore_n 3, 1) := by decide +kernel
theorem dX1_countOfWidth_4 : decode cX1_countOfWidth 4 = .ok (.iload_n 3, 1) := by decide +kernel
theorem dX1_countOfWidth_5 : decode cX1_countOfWidth 5 = .ok (.aload_n 0, 1) := by decide +kernel
theorem dX1_countOfWidth_6 : decode cX1_countOfWidth 6 = .ok (.getfield 51, 3) := by decide +kernel
theorem dX1_countOfWidth_9 : decode cX1_countOfWidth 9 = .ok (.if_icmp .ge 22, 3) := by decide +kernel
theorem dX1_countOfWidth_12 : decode cX1_countOfWidth 12 = .ok (.aload_n 0, 1) := by decide +kernel
theorem dX1_countOfWidth_13 : decode cX1_countOfWidth 13 = .ok (.getfield 21, 3) := by decide +kernel
theorem dX1_countOfWidth_16 : decode cX1_countOfWidth 16 = .ok (.iload_n 3, 1) := by decide +kernel
theorem dX1_countOfWidth_17 : decode cX1_countOfWidth 17 = .ok (.iaload, 1) := by decide +kernel
theorem dX1_countOfWidth_18 : decode cX1_countOfWidth 18 = .ok (.iload_n 1, 1) := by decide +kernel
theorem dX1_countOfWidth_19 : decode cX1_countOfWidth 19 = .ok (.if_icmp .ne 6, 3) := by decide +kernel
theorem dX1_countOfWidth_22 : decode cX1_countOfWidth 22 = .ok (.iinc 2 1, 3) := by decide +kernel
theorem dX1_countOfWidth_25 : decode cX1_countOfWidth 25 = .ok (.iinc 3 1, 3) := by decide +kernel
theorem dX1_countOfWidth_28 : decode cX1_countOfWidth 28 = .ok (.goto (-24), 3) := by decide +kernel
theorem dX1_countOfWidth_31 : decode cX1_countOfWidth 31 = .ok (.iload_n 2, 1) := by decide +kernel
theorem dX1_countOfWidth_32 : decode cX1_countOfWidth 32 = .ok (.ireturn, 1) := by decide +kernel
theorem dX1_rowOfWidth_0 : decode cX1_rowOfWidth 0 = .ok (.iconst 0, 1) := by decide +kernel
theorem dX1_rowOfWidth_1 : decode cX1_rowOfWidth 1 = .ok (.istore_n 3, 1) := by decide +kernel
theorem dX1_rowOfWidth_2 : decode cX1_rowOfWidth 2 = .ok (.iconst 0, 1) := by decide +kernel
theorem dX1_rowOfWidth_3 : decode cX1_rowOfWidth 3 = .ok (.istore 4, 2) := by decide +kernel
theorem dX1_rowOfWidth_5 : decode cX1_rowOfWidth 5 = .ok (.iload 4, 2) := by decide +kernel
theorem dX1_rowOfWidth_7 : decode cX1_rowOfWidth 7 = .ok (.aload_n 0, 1) := by decide +kernel
theorem dX1_rowOfWidth_8 : decode cX1_rowOfWidth 8 = .ok (.getfield 51, 3) := by decide +kernel
theorem dX1_rowOfWidth_11 : decode cX1_rowOfWidth 11 = .ok (.if_icmp .ge 36, 3) := by decide +kernel
theorem dX1_rowOfWidth_14 : decode cX1_rowOfWidth 14 = .ok (.aload_n 0, 1) := by decide +kernel
theorem dX1_rowOfWidth_15 : decode cX1_rowOfWidth 15 = .ok (.getfield 21, 3) := by decide +kernel
theorem dX1_rowOfWidth_18 : decode cX1_rowOfWidth 18 = .ok (.iload 4, 2) := by decide +kernel
theorem dX1_rowOfWidth_20 : decode cX1_rowOfWidth 20 = .ok (.iaload, 1) := by decide +kernel
theorem dX1_rowOfWidth_21 : decode cX1_rowOfWidth 21 = .ok (.iload_n 1, 1) := by decide +kernel
theorem dX1_rowOfWidth_22 : decode cX1_rowOfWidth 22 = .ok (.if_icmp .ne 19, 3) := by decide +kernel
theorem dX1_rowOfWidth_25 : decode cX1_rowOfWidth 25 = .ok (.iload_n 3, 1) := by decide +kernel
theorem dX1_rowOfWidth_26 : decode cX1_rowOfWidth 26 = .ok (.iload_n 2, 1) := by decide +kernel
theorem dX1_rowOfWidth_27 : decode cX1_rowOfWidth 27 = .ok (.if_icmp .ne 11, 3) := by decide +kernel
theorem dX1_rowOfWidth_30 : decode cX1_rowOfWidth 30 = .ok (.aload_n 0, 1) := by decide +kernel
theorem dX1_rowOfWidth_31 : decode cX1_rowOfWidth 31 = .ok (.getfield 18, 3) := by decide +kernel
theorem dX1_rowOfWidth_34 : decode cX1_rowOfWidth 34 = .ok (.iload 4, 2) := by decide +kernel
theorem dX1_rowOfWidth_36 : decode cX1_rowOfWidth 36 = .ok (.iaload, 1) := by decide +kernel
theorem dX1_rowOfWidth_37 : decode cX1_rowOfWidth 37 = .ok (.ireturn, 1) := by decide +kernel
theorem dX1_rowOfWidth_38 : decode cX1_rowOfWidth 38 = .ok (.iinc 3 1, 3) := by decide +kernel
theorem dX1_rowOfWidth_41 : decode cX1_rowOfWidth 41 = .ok (.iinc 4 1, 3) := by decide +kernel
theorem dX1_rowOfWidth_44 : decode cX1_rowOfWidth 44 = .ok (.goto (-39), 3) := by decide +kernel
theorem dX1_rowOfWidth_47 : decode cX1_rowOfWidth 47 = .ok (.iconst (-1), 1) := by decide +kernel
theorem dX1_rowOfWidth_48 : decode cX1_rowOfWidth 48 = .ok (.ireturn, 1) := by decide +kernel
set_option maxRecDepth 20000 in
theorem ggX1_wallsOf_X5_across : GoodIn wsX1_wallsOf wsX5_across := goodIn_r _ [4, 5] (by decide +kernel) (by decide +kernel)
set_option maxRecDepth 20000 in
theorem gX1_wallsOf_X5_across_n166 : GoodIn wsX1_wallsOf (wsX5_across) := ggX1_wallsOf_X5_across
set_option maxRecDepth 20000 in
theorem ggX1_wallsOf_X1_hasRoom : GoodIn wsX1_wallsOf wsX1_hasRoom := goodIn_r _ [10, 11, 12, 13, 9, 14, 15, 16, 17, 18, 19, 20, 3, 21, 22, 23, 24, 25, 26, 27, 28, 29, 30, 31, 32, 33, 34] (by decide +kernel) (by decide +kernel)
set_option maxRecDepth 20000 in
theorem gX1_wallsOf_X1_hasRoom : GoodIn wsX1_wallsOf (wsV RX1 169 RX1 yX1_hasRoom wsX1_hasRoom) := goodIn_app (goodIn_of _ (by decide +kernel)) ggX1_wallsOf_X1_hasRoom
theorem dX1_wallsOf_0 : decode cX1_wallsOf 0 = .ok (.iconst 0, 1) := by decide +kernel
theorem dX1_wallsOf_1 : decode cX1_wallsOf 1 = .ok (.istore_n 2, 1) := by decide +kernel
theorem dX1_wallsOf_2 : decode cX1_wallsOf 2 = .ok (.iconst 0, 1) := by decide +kernel
theorem dX1_wallsOf_3 : decode cX1_wallsOf 3 = .ok (.istore_n 3, 1) := by decide +kernel
theorem dX1_wallsOf_4 : decode cX1_wallsOf 4 = .ok (.iload_n 3, 1) := by decide +kernel
theorem dX1_wallsOf_5 : decode cX1_wallsOf 5 = .ok (.aload_n 0, 1) := by decide +kernel
theorem dX1_wallsOf_6 : decode cX1_wallsOf 6 = .ok (.getfield 43, 3) := by decide +kernel
theorem dX1_wallsOf_9 : decode cX1_wallsOf 9 = .ok (.getfield 89, 3) := by decide +kernel
theorem dX1_wallsOf_12 : decode cX1_wallsOf 12 = .ok (.if_icmp .ge 27, 3) := by decide +kernel
theorem dX1_wallsOf_15 : decode cX1_wallsOf 15 = .ok (.aload_n 0, 1) := by decide +kernel
theorem dX1_wallsOf_16 : decode cX1_wallsOf 16 = .ok (.iload_n 1, 1) := by decide +kernel
theorem dX1_wallsOf_17 : decode cX1_wallsOf 17 = .ok (.iload_n 3, 1) := by decide +kernel
theorem dX1_wallsOf_18 : decode cX1_wallsOf 18 = .ok (.invokestatic 166, 3) := by decide +kernel
theorem dX1_wallsOf_21 : decode cX1_wallsOf 21 = .ok (.invokevirtual 169, 3) := by decide +kernel
theorem dX1_wallsOf_24 : decode cX1_wallsOf 24 = .ok (.ifCond .eq 9, 3) := by decide +kernel
theorem dX1_wallsOf_27 : decode cX1_wallsOf 27 = .ok (.iload_n 2, 1) := by decide +kernel
theorem dX1_wallsOf_28 : decode cX1_wallsOf 28 = .ok (.iconst 1, 1) := by decide +kernel
theorem dX1_wallsOf_29 : decode cX1_wallsOf 29 = .ok (.iload_n 3, 1) := by decide +kernel
theorem dX1_wallsOf_30 : decode cX1_wallsOf 30 = .ok (.ishl, 1) := by decide +kernel
theorem dX1_wallsOf_31 : decode cX1_wallsOf 31 = .ok (.ior, 1) := by decide +kernel
theorem dX1_wallsOf_32 : decode cX1_wallsOf 32 = .ok (.istore_n 2, 1) := by decide +kernel
theorem dX1_wallsOf_33 : decode cX1_wallsOf 33 = .ok (.iinc 3 1, 3) := by decide +kernel
theorem dX1_wallsOf_36 : decode cX1_wallsOf 36 = .ok (.goto (-32), 3) := by decide +kernel
theorem dX1_wallsOf_39 : decode cX1_wallsOf 39 = .ok (.iload_n 2, 1) := by decide +kernel
theorem dX1_wallsOf_40 : decode cX1_wallsOf 40 = .ok (.ireturn, 1) := by decide +kernel
theorem dX1_isOpen_0 : decode cX1_isOpen 0 = .ok (.iconst 0, 1) := by decide +kernel
theorem dX1_isOpen_1 : decode cX1_isOpen 1 = .ok (.istore_n 2, 1) := by decide +kernel
theorem dX1_isOpen_2 : decode cX1_isOpen 2 = .ok (.iload_n 2, 1) := by decide +kernel
theorem dX1_isOpen_3 : decode cX1_isOpen 3 = .ok (.aload_n 0, 1) := by decide +kernel
theorem dX1_isOpen_4 : decode cX1_isOpen 4 = .ok (.getfield 55, 3) := by decide +kernel
theorem dX1_isOpen_7 : decode cX1_isOpen 7 = .ok (.if_icmp .ge 81, 3) := by decide +kernel
theorem dX1_isOpen_10 : decode cX1_isOpen 10 = .ok (.aload_n 0, 1) := by decide +kernel
theorem dX1_isOpen_11 : decode cX1_isOpen 11 = .ok (.getfield 24, 3) := by decide +kernel
theorem dX1_isOpen_14 : decode cX1_isOpen 14 = .ok (.iload_n 2, 1) := by decide +kernel
theorem dX1_isOpen_15 : decode cX1_isOpen 15 = .ok (.iaload, 1) := by decide +kernel
theorem dX1_isOpen_16 : decode cX1_isOpen 16 = .ok (.iload_n 1, 1) := by decide +kernel
theorem dX1_isOpen_17 : decode cX1_isOpen 17 = .ok (.iconst (-1), 1) := by decide +kernel
theorem dX1_isOpen_18 : decode cX1_isOpen 18 = .ok (.ixor, 1) := by decide +kernel
theorem dX1_isOpen_19 : decode cX1_isOpen 19 = .ok (.iand, 1) := by decide +kernel
theorem dX1_isOpen_20 : decode cX1_isOpen 20 = .ok (.ifCond .ne 18, 3) := by decide +kernel
theorem dX1_isOpen_23 : decode cX1_isOpen 23 = .ok (.aload_n 0, 1) := by decide +kernel
theorem dX1_isOpen_24 : decode cX1_isOpen 24 = .ok (.getfield 27, 3) := by decide +kernel
theorem dX1_isOpen_27 : decode cX1_isOpen 27 = .ok (.iload_n 2, 1) := by decide +kernel
theorem dX1_isOpen_28 : decode cX1_isOpen 28 = .ok (.iaload, 1) := by decide +kernel
theorem dX1_isOpen_29 : decode cX1_isOpen 29 = .ok (.iload_n 1, 1) := by decide +kernel
theorem dX1_isOpen_30 : decode cX1_isOpen 30 = .ok (.iand, 1) := by decide +kernel
theorem dX1_isOpen_31 : decode cX1_isOpen 31 = .ok (.ifCond .ne 7, 3) := by decide +kernel
theorem dX1_isOpen_34 : decode cX1_isOpen 34 = .ok (.iconst 1, 1) := by decide +kernel
theorem dX1_isOpen_35 : decode cX1_isOpen 35 = .ok (.goto 4, 3) := by decide +kernel
theorem dX1_isOpen_38 : decode cX1_isOpen 38 = .ok (.iconst 0, 1) := by decide +kernel
theorem dX1_isOpen_39 : decode cX1_isOpen 39 = .ok (.istore_n 3, 1) := by decide +kernel
theorem dX1_isOpen_40 : decode cX1_isOpen 40 = .ok (.aload_n 0, 1) := by decide +kernel
theorem dX1_isOpen_41 : decode cX1_isOpen 41 = .ok (.getfield 27, 3) := by decide +kernel
theorem dX1_isOpen_44 : decode cX1_isOpen 44 = .ok (.iload_n 2, 1) := by decide +kernel
theorem dX1_isOpen_45 : decode cX1_isOpen 45 = .ok (.iaload, 1) := by decide +kernel
theorem dX1_isOpen_46 : decode cX1_isOpen 46 = .ok (.iload_n 1, 1) := by decide +kernel
theorem dX1_isOpen_47 : decode cX1_isOpen 47 = .ok (.iconst (-1), 1) := by decide +kernel
theorem dX1_isOpen_48 : decode cX1_isOpen 48 = .ok (.ixor, 1) := by decide +kernel
theorem dX1_isOpen_49 : decode cX1_isOpen 49 = .ok (.iand, 1) := by decide +kernel
theorem dX1_isOpen_50 : decode cX1_isOpen 50 = .ok (.ifCond .ne 18, 3) := by decide +kernel
theorem dX1_isOpen_53 : decode cX1_isOpen 53 = .ok (.aload_n 0, 1) := by decide +kernel
theorem dX1_isOpen_54 : decode cX1_isOpen 54 = .ok (.getfield 24, 3) := by decide +kernel
theorem dX1_isOpen_57 : decode cX1_isOpen 57 = .ok (.iload_n 2, 1) := by decide +kernel
theorem dX1_isOpen_58 : decode cX1_isOpen 58 = .ok (.iaload, 1) := by decide +kernel
theorem dX1_isOpen_59 : decode cX1_isOpen 59 = .ok (.iload_n 1, 1) := by decide +kernel
theorem dX1_isOpen_60 : decode cX1_isOpen 60 = .ok (.iand, 1) := by decide +kernel
theorem dX1_isOpen_61 : decode cX1_isOpen 61 = .ok (.ifCond .ne 7, 3) := by decide +kernel
theorem dX1_isOpen_64 : decode cX1_isOpen 64 = .ok (.iconst 1, 1) := by decide +kernel
theorem dX1_isOpen_65 : decode cX1_isOpen 65 = .ok (.goto 4, 3) := by decide +kernel
theorem dX1_isOpen_68 : decode cX1_isOpen 68 = .ok (.iconst 0, 1) := by decide +kernel
theorem dX1_isOpen_69 : decode cX1_isOpen 69 = .ok (.istore 4, 2) := by decide +kernel
theorem dX1_isOpen_71 : decode cX1_isOpen 71 = .ok (.iload_n 3, 1) := by decide +kernel
theorem dX1_isOpen_72 : decode cX1_isOpen 72 = .ok (.ifCond .ne 8, 3) := by decide +kernel
theorem dX1_isOpen_75 : decode cX1_isOpen 75 = .ok (.iload 4, 2) := by decide +kernel
theorem dX1_isOpen_77 : decode cX1_isOpen 77 = .ok (.ifCond .eq 5, 3) := by decide +kernel
theorem dX1_isOpen_80 : decode cX1_isOpen 80 = .ok (.iconst 1, 1) := by decide +kernel
theorem dX1_isOpen_81 : decode cX1_isOpen 81 = .ok (.ireturn, 1) := by decide +kernel
theorem dX1_isOpen_82 : decode cX1_isOpen 82 = .ok (.iinc 2 1, 3) := by decide +kernel
theorem dX1_isOpen_85 : decode cX1_isOpen 85 = .ok (.goto (-83), 3) := by decide +kernel
theorem dX1_isOpen_88 : decode cX1_isOpen 88 = .ok (.iconst 0, 1) := by decide +kernel
theorem dX1_isOpen_89 : decode cX1_isOpen 89 = .ok (.ireturn, 1) := by decide +kernel
set_option maxRecDepth 20000 in
theorem ggX2_init_X0_init : GoodIn wsX2_init wsX0_init := goodIn_r _ [17, 18, 2, 3] (by decide +kernel) (by decide +kernel)
set_option maxRecDepth 20000 in
theorem gX2_init_X0_init_n30 : GoodIn wsX2_init (wsX0_init) := ggX2_init_X0_init
theorem dX2_init_0 : decode cX2_init 0 = .ok (.aload_n 0, 1) := by decide +kernel
theorem dX2_init_1 : decode cX2_init 1 = .ok (.invokespecial 3, 3) := by decide +kernel
theorem dX2_init_4 : decode cX2_init 4 = .ok (.aload_n 0, 1) := by decide +kernel
theorem dX2_init_5 : decode cX2_init 5 = .ok (.sipush 256, 3) := by decide +kernel
theorem dX2_init_8 : decode cX2_init 8 = .ok (.newarray .int, 2) := by decide +kernel
theorem dX2_init_10 : decode cX2_init 10 = .ok (.putfield 9, 3) := by decide +kernel
theorem dX2_init_13 : decode cX2_init 13 = .ok (.aload_n 0, 1) := by decide +kernel
theorem dX2_init_14 : decode cX2_init 14 = .ok (.sipush 256, 3) := by decide +kernel
theorem dX2_init_17 : decode cX2_init 17 = .ok (.newarray .boolean, 2) := by decide +kernel
theorem dX2_init_19 : decode cX2_init 19 = .ok (.putfield 15, 3) := by decide +kernel
theorem dX2_init_22 : decode cX2_init 22 = .ok (.aload_n 0, 1) := by decide +kernel
theorem dX2_init_23 : decode cX2_init 23 = .ok (.sipush 256, 3) := by decide +kernel
theorem dX2_init_26 : decode cX2_init 26 = .ok (.newarray .int, 2) := by decide +kernel
theorem dX2_init_28 : decode cX2_init 28 = .ok (.putfield 19, 3) := by decide +kernel
theorem dX2_init_31 : decode cX2_init 31 = .ok (.aload_n 0, 1) := by decide +kernel
theorem dX2_init_32 : decode cX2_init 32 = .ok (.sipush 256, 3) := by decide +kernel
theorem dX2_init_35 : decode cX2_init 35 = .ok (.newarray .int, 2) := by decide +kernel
theorem dX2_init_37 : decode cX2_init 37 = .ok (.putfield 22, 3) := by decide +kernel
theorem dX2_init_40 : decode cX2_init 40 = .ok (.aload_n 0, 1) := by decide +kernel
theorem dX2_init_41 : decode cX2_init 41 = .ok (.sipush 256, 3) := by decide +kernel
theorem dX2_init_44 : decode cX2_init 44 = .ok (.newarray .int, 2) := by decide +kernel
theorem dX2_init_46 : decode cX2_init 46 = .ok (.putfield 25, 3) := by decide +kernel
theorem dX2_init_49 : decode cX2_init 49 = .ok (.aload_n 0, 1) := by decide +kernel
theorem dX2_init_50 : decode cX2_init 50 = .ok (.new 28, 3) := by decide +kernel
theorem dX2_init_53 : decode cX2_init 53 = .ok (.dup, 1) := by decide +kernel
theorem dX2_init_54 : decode cX2_init 54 = .ok (.invokespecial 30, 3) := by decide +kernel
theorem dX2_init_57 : decode cX2_init 57 = .ok (.putfield 31, 3) := by decide +kernel
theorem dX2_init_60 : decode cX2_init 60 = .ok (.aload_n 0, 1) := by decide +kernel
theorem dX2_init_61 : decode cX2_init 61 = .ok (.aload_n 1, 1) := by decide +kernel
theorem dX2_init_62 : decode cX2_init 62 = .ok (.putfield 35, 3) := by decide +kernel
theorem dX2_init_65 : decode cX2_init 65 = .ok (.return_, 1) := by decide +kernel
theorem dX2_rankOfAll_0 : decode cX2_rankOfAll 0 = .ok (.aload_n 0, 1) := by decide +kernel
theorem dX2_rankOfAll_1 : decode cX2_rankOfAll 1 = .ok (.getfield 9, 3) := by decide +kernel
theorem dX2_rankOfAll_4 : decode cX2_rankOfAll 4 = .ok (.iconst 1, 1) := by decide +kernel
theorem dX2_rankOfAll_5 : decode cX2_rankOfAll 5 = .ok (.aload_n 0, 1) := by decide +kernel
theorem dX2_rankOfAll_6 : decode cX2_rankOfAll 6 = .ok (.getfield 35, 3) := by decide +kernel
theorem dX2_rankOfAll_9 : decode cX2_rankOfAll 9 = .ok (.getfield 39, 3) := by decide +kernel
theorem dX2_rankOfAll_12 : decode cX2_rankOfAll 12 = .ok (.ishl, 1) := by decide +kernel
theorem dX2_rankOfAll_13 : decode cX2_rankOfAll 13 = .ok (.iconst 1, 1) := by decide +kernel
theorem dX2_rankOfAll_14 : decode cX2_rankOfAll 14 = .ok (.isub, 1) := by decide +kernel
theorem dX2_rankOfAll_15 : decode cX2_rankOfAll 15 = .ok (.iaload, 1) := by decide +kernel
theorem dX2_rankOfAll_16 : decode cX2_rankOfAll 16 = .ok (.ireturn, 1) := by decide +kernel
theorem dX2_forgetCommon_0 : decode cX2_forgetCommon 0 = .ok (.iconst 0, 1) := by decide +kernel
theorem dX2_forgetCommon_1 : decode cX2_forgetCommon 1 = .ok (.istore_n 1, 1) := by decide +kernel
end
section
theorem dX2_forgetCommon_2 : decode cX2_forgetCommon 2 = .ok (.iload_n 1, 1) := by decide +kernel
theorem dX2_forgetCommon_3 : decode cX2_forgetCommon 3 = .ok (.sipush 256, 3) := by decide +kernel
theorem dX2_forgetCommon_6 : decode cX2_forgetCommon 6 = .ok (.if_icmp .ge 16, 3) := by decide +kernel
theorem dX2_forgetCommon_9 : decode cX2_forgetCommon 9 = .ok (.aload_n 0, 1) := by decide +kernel
theorem dX2_forgetCommon_10 : decode cX2_forgetCommon 10 = .ok (.getfield 15, 3) := by decide +kernel
theorem dX2_forgetCommon_13 : decode cX2_forgetCommon 13 = .ok (.iload_n 1, 1) := by decide +kernel
theorem dX2_forgetCommon_14 : decode cX2_forgetCommon 14 = .ok (.iconst 0, 1) := by decide +kernel
theorem dX2_forgetCommon_15 : decode cX2_forgetCommon 15 = .ok (.bastore, 1) := by decide +kernel
theorem dX2_forgetCommon_16 : decode cX2_forgetCommon 16 = .ok (.iinc 1 1, 3) := by decide +kernel
theorem dX2_forgetCommon_19 : decode cX2_forgetCommon 19 = .ok (.goto (-17), 3) := by decide +kernel
theorem dX2_forgetCommon_22 : decode cX2_forgetCommon 22 = .ok (.return_, 1) := by decide +kernel
set_option maxRecDepth 20000 in
theorem ggX2_rankAnew_X2_rankWith : GoodIn wsX2_rankAnew wsX2_rankWith := goodIn_r _ [6, 7, 8, 9, 10, 11, 1, 12, 13, 14, 15, 16, 17, 18, 19, 20, 21, 22, 23, 24, 25, 26, 27, 28, 29, 30, 31, 32, 33, 34, 35, 36, 37, 38, 39, 40, 41, 42, 43, 44, 45, 46, 47, 48, 49] (by decide +kernel) (by decide +kernel)
set_option maxRecDepth 20000 in
theorem gX2_rankAnew_X2_rankWith : GoodIn wsX2_rankAnew (wsV RX2 45 RX2 yX2_rankWith wsX2_rankWith) := goodIn_app (goodIn_of _ (by decide +kernel)) ggX2_rankAnew_X2_rankWith
theorem dX2_rankAnew_0 : decode cX2_rankAnew 0 = .ok (.iconst 0, 1) := by decide +kernel
theorem dX2_rankAnew_1 : decode cX2_rankAnew 1 = .ok (.istore_n 1, 1) := by decide +kernel
theorem dX2_rankAnew_2 : decode cX2_rankAnew 2 = .ok (.iload_n 1, 1) := by decide +kernel
theorem dX2_rankAnew_3 : decode cX2_rankAnew 3 = .ok (.aload_n 0, 1) := by decide +kernel
theorem dX2_rankAnew_4 : decode cX2_rankAnew 4 = .ok (.getfield 35, 3) := by decide +kernel
theorem dX2_rankAnew_7 : decode cX2_rankAnew 7 = .ok (.getfield 39, 3) := by decide +kernel
theorem dX2_rankAnew_10 : decode cX2_rankAnew 10 = .ok (.if_icmp .ge 30, 3) := by decide +kernel
theorem dX2_rankAnew_13 : decode cX2_rankAnew 13 = .ok (.iconst 0, 1) := by decide +kernel
theorem dX2_rankAnew_14 : decode cX2_rankAnew 14 = .ok (.istore_n 2, 1) := by decide +kernel
theorem dX2_rankAnew_15 : decode cX2_rankAnew 15 = .ok (.iload_n 2, 1) := by decide +kernel
theorem dX2_rankAnew_16 : decode cX2_rankAnew 16 = .ok (.iconst 1, 1) := by decide +kernel
theorem dX2_rankAnew_17 : decode cX2_rankAnew 17 = .ok (.iload_n 1, 1) := by decide +kernel
theorem dX2_rankAnew_18 : decode cX2_rankAnew 18 = .ok (.ishl, 1) := by decide +kernel
theorem dX2_rankAnew_19 : decode cX2_rankAnew 19 = .ok (.if_icmp .ge 15, 3) := by decide +kernel
theorem dX2_rankAnew_22 : decode cX2_rankAnew 22 = .ok (.aload_n 0, 1) := by decide +kernel
theorem dX2_rankAnew_23 : decode cX2_rankAnew 23 = .ok (.iload_n 2, 1) := by decide +kernel
theorem dX2_rankAnew_24 : decode cX2_rankAnew 24 = .ok (.iload_n 1, 1) := by decide +kernel
theorem dX2_rankAnew_25 : decode cX2_rankAnew 25 = .ok (.invokevirtual 45, 3) := by decide +kernel
theorem dX2_rankAnew_28 : decode cX2_rankAnew 28 = .ok (.iinc 2 1, 3) := by decide +kernel
theorem dX2_rankAnew_31 : decode cX2_rankAnew 31 = .ok (.goto (-16), 3) := by decide +kernel
theorem dX2_rankAnew_34 : decode cX2_rankAnew 34 = .ok (.iinc 1 1, 3) := by decide +kernel
theorem dX2_rankAnew_37 : decode cX2_rankAnew 37 = .ok (.goto (-35), 3) := by decide +kernel
theorem dX2_rankAnew_40 : decode cX2_rankAnew 40 = .ok (.return_, 1) := by decide +kernel
set_option maxRecDepth 20000 in
theorem ggX2_rankWith_X0_set : GoodIn wsX2_rankWith wsX0_set := goodIn_r _ [11, 12, 13, 14, 42, 43, 44] (by decide +kernel) (by decide +kernel)
set_option maxRecDepth 20000 in
theorem gX2_rankWith_X0_set : GoodIn wsX2_rankWith (wsV RX2 49 RX0 yX0_set wsX0_set) := goodIn_app (goodIn_of _ (by decide +kernel)) ggX2_rankWith_X0_set
set_option maxRecDepth 20000 in
theorem ggX2_rankWith_X0_crossWith : GoodIn wsX2_rankWith wsX0_crossWith := goodIn_r _ [18, 13, 14, 12, 19, 8, 9, 10, 11, 35, 36, 37, 38, 39, 40, 41, 42, 43, 44] (by decide +kernel) (by decide +kernel)
set_option maxRecDepth 20000 in
theorem gX2_rankWith_X0_crossWith : GoodIn wsX2_rankWith (wsV RX2 62 RX0 yX0_crossWith wsX0_crossWith) := goodIn_app (goodIn_of _ (by decide +kernel)) ggX2_rankWith_X0_crossWith
set_option maxRecDepth 20000 in
theorem ggX2_rankWith_X0_isNothing : GoodIn wsX2_rankWith wsX0_isNothing := goodIn_r _ [23, 12, 13, 14, 42, 43, 44] (by decide +kernel) (by decide +kernel)
set_option maxRecDepth 20000 in
theorem gX2_rankWith_X0_isNothing : GoodIn wsX2_rankWith (wsV RX2 66 RX0 yX0_isNothing wsX0_isNothing) := goodIn_app (goodIn_of _ (by decide +kernel)) ggX2_rankWith_X0_isNothing
set_option maxRecDepth 20000 in
theorem ggX2_rankWith_X0_climb : GoodIn wsX2_rankWith wsX0_climb := goodIn_r _ [27, 12, 13, 14, 35, 36, 37, 38, 39, 40, 41, 42, 43, 44] (by decide +kernel) (by decide +kernel)
set_option maxRecDepth 20000 in
theorem gX2_rankWith_X0_climb : GoodIn wsX2_rankWith (wsV RX2 70 RX0 yX0_climb wsX0_climb) := goodIn_app (goodIn_of _ (by decide +kernel)) ggX2_rankWith_X0_climb
theorem dX2_rankWith_0 : decode cX2_rankWith 0 = .ok (.iload_n 1, 1) := by decide +kernel
theorem dX2_rankWith_1 : decode cX2_rankWith 1 = .ok (.iconst 1, 1) := by decide +kernel
theorem dX2_rankWith_2 : decode cX2_rankWith 2 = .ok (.iload_n 2, 1) := by decide +kernel
theorem dX2_rankWith_3 : decode cX2_rankWith 3 = .ok (.ishl, 1) := by decide +kernel
theorem dX2_rankWith_4 : decode cX2_rankWith 4 = .ok (.ior, 1) := by decide +kernel
theorem dX2_rankWith_5 : decode cX2_rankWith 5 = .ok (.istore_n 3, 1) := by decide +kernel
theorem dX2_rankWith_6 : decode cX2_rankWith 6 = .ok (.aload_n 0, 1) := by decide +kernel
theorem dX2_rankWith_7 : decode cX2_rankWith 7 = .ok (.getfield 9, 3) := by decide +kernel
theorem dX2_rankWith_10 : decode cX2_rankWith 10 = .ok (.iload_n 1, 1) := by decide +kernel
theorem dX2_rankWith_11 : decode cX2_rankWith 11 = .ok (.iaload, 1) := by decide +kernel
theorem dX2_rankWith_12 : decode cX2_rankWith 12 = .ok (.istore 4, 2) := by decide +kernel
theorem dX2_rankWith_14 : decode cX2_rankWith 14 = .ok (.aload_n 0, 1) := by decide +kernel
theorem dX2_rankWith_15 : decode cX2_rankWith 15 = .ok (.getfield 31, 3) := by decide +kernel
theorem dX2_rankWith_18 : decode cX2_rankWith 18 = .ok (.aload_n 0, 1) := by decide +kernel
theorem dX2_rankWith_19 : decode cX2_rankWith 19 = .ok (.getfield 19, 3) := by decide +kernel
theorem dX2_rankWith_22 : decode cX2_rankWith 22 = .ok (.iload_n 1, 1) := by decide +kernel
theorem dX2_rankWith_23 : decode cX2_rankWith 23 = .ok (.iaload, 1) := by decide +kernel
theorem dX2_rankWith_24 : decode cX2_rankWith 24 = .ok (.aload_n 0, 1) := by decide +kernel
theorem dX2_rankWith_25 : decode cX2_rankWith 25 = .ok (.getfield 22, 3) := by decide +kernel
theorem dX2_rankWith_28 : decode cX2_rankWith 28 = .ok (.iload_n 1, 1) := by decide +kernel
theorem dX2_rankWith_29 : decode cX2_rankWith 29 = .ok (.iaload, 1) := by decide +kernel
theorem dX2_rankWith_30 : decode cX2_rankWith 30 = .ok (.aload_n 0, 1) := by decide +kernel
theorem dX2_rankWith_31 : decode cX2_rankWith 31 = .ok (.getfield 25, 3) := by decide +kernel
theorem dX2_rankWith_34 : decode cX2_rankWith 34 = .ok (.iload_n 1, 1) := by decide +kernel
theorem dX2_rankWith_35 : decode cX2_rankWith 35 = .ok (.iaload, 1) := by decide +kernel
theorem dX2_rankWith_36 : decode cX2_rankWith 36 = .ok (.invokevirtual 49, 3) := by decide +kernel
theorem dX2_rankWith_39 : decode cX2_rankWith 39 = .ok (.iload 4, 2) := by decide +kernel
theorem dX2_rankWith_41 : decode cX2_rankWith 41 = .ok (.istore 5, 2) := by decide +kernel
theorem dX2_rankWith_43 : decode cX2_rankWith 43 = .ok (.iload 4, 2) := by decide +kernel
theorem dX2_rankWith_45 : decode cX2_rankWith 45 = .ok (.ifCond .ne 43, 3) := by decide +kernel
theorem dX2_rankWith_48 : decode cX2_rankWith 48 = .ok (.aload_n 0, 1) := by decide +kernel
theorem dX2_rankWith_49 : decode cX2_rankWith 49 = .ok (.getfield 31, 3) := by decide +kernel
theorem dX2_rankWith_52 : decode cX2_rankWith 52 = .ok (.aload_n 0, 1) := by decide +kernel
theorem dX2_rankWith_53 : decode cX2_rankWith 53 = .ok (.getfield 35, 3) := by decide +kernel
theorem dX2_rankWith_56 : decode cX2_rankWith 56 = .ok (.getfield 53, 3) := by decide +kernel
theorem dX2_rankWith_59 : decode cX2_rankWith 59 = .ok (.iload_n 2, 1) := by decide +kernel
theorem dX2_rankWith_60 : decode cX2_rankWith 60 = .ok (.iaload, 1) := by decide +kernel
theorem dX2_rankWith_61 : decode cX2_rankWith 61 = .ok (.aload_n 0, 1) := by decide +kernel
theorem dX2_rankWith_62 : decode cX2_rankWith 62 = .ok (.getfield 35, 3) := by decide +kernel
theorem dX2_rankWith_65 : decode cX2_rankWith 65 = .ok (.getfield 56, 3) := by decide +kernel
theorem dX2_rankWith_68 : decode cX2_rankWith 68 = .ok (.iload_n 2, 1) := by decide +kernel
theorem dX2_rankWith_69 : decode cX2_rankWith 69 = .ok (.iaload, 1) := by decide +kernel
theorem dX2_rankWith_70 : decode cX2_rankWith 70 = .ok (.aload_n 0, 1) := by decide +kernel
theorem dX2_rankWith_71 : decode cX2_rankWith 71 = .ok (.getfield 35, 3) := by decide +kernel
theorem dX2_rankWith_74 : decode cX2_rankWith 74 = .ok (.getfield 59, 3) := by decide +kernel
theorem dX2_rankWith_77 : decode cX2_rankWith 77 = .ok (.iload_n 2, 1) := by decide +kernel
theorem dX2_rankWith_78 : decode cX2_rankWith 78 = .ok (.iaload, 1) := by decide +kernel
theorem dX2_rankWith_79 : decode cX2_rankWith 79 = .ok (.invokevirtual 49, 3) := by decide +kernel
theorem dX2_rankWith_82 : decode cX2_rankWith 82 = .ok (.iconst 1, 1) := by decide +kernel
theorem dX2_rankWith_83 : decode cX2_rankWith 83 = .ok (.istore 5, 2) := by decide +kernel
theorem dX2_rankWith_85 : decode cX2_rankWith 85 = .ok (.goto 89, 3) := by decide +kernel
theorem dX2_rankWith_88 : decode cX2_rankWith 88 = .ok (.iload 4, 2) := by decide +kernel
theorem dX2_rankWith_90 : decode cX2_rankWith 90 = .ok (.iconst 1, 1) := by decide +kernel
theorem dX2_rankWith_91 : decode cX2_rankWith 91 = .ok (.if_icmp .ne 59, 3) := by decide +kernel
theorem dX2_rankWith_94 : decode cX2_rankWith 94 = .ok (.aload_n 0, 1) := by decide +kernel
theorem dX2_rankWith_95 : decode cX2_rankWith 95 = .ok (.getfield 31, 3) := by decide +kernel
theorem dX2_rankWith_98 : decode cX2_rankWith 98 = .ok (.aload_n 0, 1) := by decide +kernel
theorem dX2_rankWith_99 : decode cX2_rankWith 99 = .ok (.getfield 35, 3) := by decide +kernel
theorem dX2_rankWith_102 : decode cX2_rankWith 102 = .ok (.iload_n 2, 1) := by decide +kernel
theorem dX2_rankWith_103 : decode cX2_rankWith 103 = .ok (.invokevirtual 62, 3) := by decide +kernel
theorem dX2_rankWith_106 : decode cX2_rankWith 106 = .ok (.aload_n 0, 1) := by decide +kernel
theorem dX2_rankWith_107 : decode cX2_rankWith 107 = .ok (.getfield 31, 3) := by decide +kernel
theorem dX2_rankWith_110 : decode cX2_rankWith 110 = .ok (.invokevirtual 66, 3) := by decide +kernel
theorem dX2_rankWith_113 : decode cX2_rankWith 113 = .ok (.ifCond .eq 31, 3) := by decide +kernel
theorem dX2_rankWith_116 : decode cX2_rankWith 116 = .ok (.aload_n 0, 1) := by decide +kernel
theorem dX2_rankWith_117 : decode cX2_rankWith 117 = .ok (.getfield 31, 3) := by decide +kernel
theorem dX2_rankWith_120 : decode cX2_rankWith 120 = .ok (.aload_n 0, 1) := by decide +kernel
theorem dX2_rankWith_121 : decode cX2_rankWith 121 = .ok (.getfield 19, 3) := by decide +kernel
theorem dX2_rankWith_124 : decode cX2_rankWith 124 = .ok (.iload_n 1, 1) := by decide +kernel
theorem dX2_rankWith_125 : decode cX2_rankWith 125 = .ok (.iaload, 1) := by decide +kernel
theorem dX2_rankWith_126 : decode cX2_rankWith 126 = .ok (.aload_n 0, 1) := by decide +kernel
theorem dX2_rankWith_127 : decode cX2_rankWith 127 = .ok (.getfield 22, 3) := by decide +kernel
theorem dX2_rankWith_130 : decode cX2_rankWith 130 = .ok (.iload_n 1, 1) := by decide +kernel
theorem dX2_rankWith_131 : decode cX2_rankWith 131 = .ok (.iaload, 1) := by decide +kernel
theorem dX2_rankWith_132 : decode cX2_rankWith 132 = .ok (.aload_n 0, 1) := by decide +kernel
theorem dX2_rankWith_133 : decode cX2_rankWith 133 = .ok (.getfield 25, 3) := by decide +kernel
theorem dX2_rankWith_136 : decode cX2_rankWith 136 = .ok (.iload_n 1, 1) := by decide +kernel
theorem dX2_rankWith_137 : decode cX2_rankWith 137 = .ok (.iaload, 1) := by decide +kernel
theorem dX2_rankWith_138 : decode cX2_rankWith 138 = .ok (.invokevirtual 49, 3) := by decide +kernel
theorem dX2_rankWith_141 : decode cX2_rankWith 141 = .ok (.goto 33, 3) := by decide +kernel
theorem dX2_rankWith_144 : decode cX2_rankWith 144 = .ok (.iconst 2, 1) := by decide +kernel
theorem dX2_rankWith_145 : decode cX2_rankWith 145 = .ok (.istore 5, 2) := by decide +kernel
theorem dX2_rankWith_147 : decode cX2_rankWith 147 = .ok (.goto 27, 3) := by decide +kernel
theorem dX2_rankWith_150 : decode cX2_rankWith 150 = .ok (.iload 4, 2) := by decide +kernel
theorem dX2_rankWith_152 : decode cX2_rankWith 152 = .ok (.iconst 2, 1) := by decide +kernel
theorem dX2_rankWith_153 : decode cX2_rankWith 153 = .ok (.if_icmp .ne 21, 3) := by decide +kernel
theorem dX2_rankWith_156 : decode cX2_rankWith 156 = .ok (.aload_n 0, 1) := by decide +kernel
theorem dX2_rankWith_157 : decode cX2_rankWith 157 = .ok (.getfield 31, 3) := by decide +kernel
theorem dX2_rankWith_160 : decode cX2_rankWith 160 = .ok (.aload_n 0, 1) := by decide +kernel
theorem dX2_rankWith_161 : decode cX2_rankWith 161 = .ok (.getfield 35, 3) := by decide +kernel
theorem dX2_rankWith_164 : decode cX2_rankWith 164 = .ok (.iload_n 2, 1) := by decide +kernel
theorem dX2_rankWith_165 : decode cX2_rankWith 165 = .ok (.invokevirtual 70, 3) := by decide +kernel
theorem dX2_rankWith_168 : decode cX2_rankWith 168 = .ok (.ifCond .eq 6, 3) := by decide +kernel
theorem dX2_rankWith_171 : decode cX2_rankWith 171 = .ok (.iconst 3, 1) := by decide +kernel
theorem dX2_rankWith_172 : decode cX2_rankWith 172 = .ok (.istore 5, 2) := by decide +kernel
theorem dX2_rankWith_174 : decode cX2_rankWith 174 = .ok (.aload_n 0, 1) := by decide +kernel
theorem dX2_rankWith_175 : decode cX2_rankWith 175 = .ok (.getfield 9, 3) := by decide +kernel
theorem dX2_rankWith_178 : decode cX2_rankWith 178 = .ok (.iload_n 3, 1) := by decide +kernel
theorem dX2_rankWith_179 : decode cX2_rankWith 179 = .ok (.iload 5, 2) := by decide +kernel
theorem dX2_rankWith_181 : decode cX2_rankWith 181 = .ok (.iastore, 1) := by decide +kernel
theorem dX2_rankWith_182 : decode cX2_rankWith 182 = .ok (.aload_n 0, 1) := by decide +kernel
theorem dX2_rankWith_183 : decode cX2_rankWith 183 = .ok (.getfield 19, 3) := by decide +kernel
theorem dX2_rankWith_186 : decode cX2_rankWith 186 = .ok (.iload_n 3, 1) := by decide +kernel
theorem dX2_rankWith_187 : decode cX2_rankWith 187 = .ok (.aload_n 0, 1) := by decide +kernel
theorem dX2_rankWith_188 : decode cX2_rankWith 188 = .ok (.getfield 31, 3) := by decide +kernel
theorem dX2_rankWith_191 : decode cX2_rankWith 191 = .ok (.getfield 74, 3) := by decide +kernel
theorem dX2_rankWith_194 : decode cX2_rankWith 194 = .ok (.iastore, 1) := by decide +kernel
theorem dX2_rankWith_195 : decode cX2_rankWith 195 = .ok (.aload_n 0, 1) := by decide +kernel
theorem dX2_rankWith_196 : decode cX2_rankWith 196 = .ok (.getfield 22, 3) := by decide +kernel
theorem dX2_rankWith_199 : decode cX2_rankWith 199 = .ok (.iload_n 3, 1) := by decide +kernel
theorem dX2_rankWith_200 : decode cX2_rankWith 200 = .ok (.aload_n 0, 1) := by decide +kernel
theorem dX2_rankWith_201 : decode cX2_rankWith 201 = .ok (.getfield 31, 3) := by decide +kernel
theorem dX2_rankWith_204 : decode cX2_rankWith 204 = .ok (.getfield 77, 3) := by decide +kernel
theorem dX2_rankWith_207 : decode cX2_rankWith 207 = .ok (.iastore, 1) := by decide +kernel
theorem dX2_rankWith_208 : decode cX2_rankWith 208 = .ok (.aload_n 0, 1) := by decide +kernel
theorem dX2_rankWith_209 : decode cX2_rankWith 209 = .ok (.getfield 25, 3) := by decide +kernel
theorem dX2_rankWith_212 : decode cX2_rankWith 212 = .ok (.iload_n 3, 1) := by decide +kernel
theorem dX2_rankWith_213 : decode cX2_rankWith 213 = .ok (.aload_n 0, 1) := by decide +kernel
theorem dX2_rankWith_214 : decode cX2_rankWith 214 = .ok (.getfield 31, 3) := by decide +kernel
theorem dX2_rankWith_217 : decode cX2_rankWith 217 = .ok (.getfield 80, 3) := by decide +kernel
theorem dX2_rankWith_220 : decode cX2_rankWith 220 = .ok (.iastore, 1) := by decide +kernel
theorem dX2_rankWith_221 : decode cX2_rankWith 221 = .ok (.return_, 1) := by decide +kernel
theorem dX2_shareDown_0 : decode cX2_shareDown 0 = .ok (.iconst 1, 1) := by decide +kernel
theorem dX2_shareDown_1 : decode cX2_shareDown 1 = .ok (.aload_n 0, 1) := by decide +kernel
theorem dX2_shareDown_2 : decode cX2_shareDown 2 = .ok (.getfield 35, 3) := by decide +kernel
theorem dX2_shareDown_5 : decode cX2_shareDown 5 = .ok (.getfield 39, 3) := by decide +kernel
theorem dX2_shareDown_8 : decode cX2_shareDown 8 = .ok (.ishl, 1) := by decide +kernel
theorem dX2_shareDown_9 : decode cX2_shareDown 9 = .ok (.iconst 1, 1) := by decide +kernel
theorem dX2_shareDown_10 : decode cX2_shareDown 10 = .ok (.isub, 1) := by decide +kernel
theorem dX2_shareDown_11 : decode cX2_shareDown 11 = .ok (.istore_n 1, 1) := by decide +kernel
theorem dX2_shareDown_12 : decode cX2_shareDown 12 = .ok (.iload_n 1, 1) := by decide +kernel
theorem dX2_shareDown_13 : decode cX2_shareDown 13 = .ok (.ifCond .le 50, 3) := by decide +kernel
theorem dX2_shareDown_16 : decode cX2_shareDown 16 = .ok (.iconst 0, 1) := by decide +kernel
theorem dX2_shareDown_17 : decode cX2_shareDown 17 = .ok (.istore_n 2, 1) := by decide +kernel
theorem dX2_shareDown_18 : decode cX2_shareDown 18 = .ok (.iload_n 2, 1) := by decide +kernel
theorem dX2_shareDown_19 : decode cX2_shareDown 19 = .ok (.aload_n 0, 1) := by decide +kernel
theorem dX2_shareDown_20 : decode cX2_shareDown 20 = .ok (.getfield 35, 3) := by decide +kernel
theorem dX2_shareDown_23 : decode cX2_shareDown 23 = .ok (.getfield 39, 3) := by decide +kernel
theorem dX2_shareDown_26 : decode cX2_shareDown 26 = .ok (.if_icmp .ge 31, 3) := by decide +kernel
theorem dX2_shareDown_29 : decode cX2_shareDown 29 = .ok (.aload_n 0, 1) := by decide +kernel
theorem dX2_shareDown_30 : decode cX2_shareDown 30 = .ok (.getfield 15, 3) := by decide +kernel
theorem dX2_shareDown_33 : decode cX2_shareDown 33 = .ok (.iload_n 1, 1) := by decide +kernel
theorem dX2_shareDown_34 : decode cX2_shareDown 34 = .ok (.baload, 1) := by decide +kernel
theorem dX2_shareDown_35 : decode cX2_shareDown 35 = .ok (.ifCond .eq 22, 3) := by decide +kernel
theorem dX2_shareDown_38 : decode cX2_shareDown 38 = .ok (.aload_n 0, 1) := by decide +kernel
theorem dX2_shareDown_39 : decode cX2_shareDown 39 = .ok (.getfield 15, 3) := by decide +kernel
theorem dX2_shareDown_42 : decode cX2_shareDown 42 = .ok (.iload_n 1, 1) := by decide +kernel
theorem dX2_shareDown_43 : decode cX2_shareDown 43 = .ok (.iconst 1, 1) := by decide +kernel
theorem dX2_shareDown_44 : decode cX2_shareDown 44 = .ok (.iload_n 2, 1) := by decide +kernel
theorem dX2_shareDown_45 : decode cX2_shareDown 45 = .ok (.ishl, 1) := by decide +kernel
theorem dX2_shareDown_46 : decode cX2_shareDown 46 = .ok (.iconst (-1), 1) := by decide +kernel
theorem dX2_shareDown_47 : decode cX2_shareDown 47 = .ok (.ixor, 1) := by decide +kernel
theorem dX2_shareDown_48 : decode cX2_shareDown 48 = .ok (.iand, 1) := by decide +kernel
theorem dX2_shareDown_49 : decode cX2_shareDown 49 = .ok (.iconst 1, 1) := by decide +kernel
theorem dX2_shareDown_50 : decode cX2_shareDown 50 = .ok (.bastore, 1) := by decide +kernel
theorem dX2_shareDown_51 : decode cX2_shareDown 51 = .ok (.iinc 2 1, 3) := by decide +kernel
theorem dX2_shareDown_54 : decode cX2_shareDown 54 = .ok (.goto (-36), 3) := by decide +kernel
theorem dX2_shareDown_57 : decode cX2_shareDown 57 = .ok (.iinc 1 (-1), 3) := by decide +kernel
theorem dX2_shareDown_60 : decode cX2_shareDown 60 = .ok (.goto (-48), 3) := by decide +kernel
theorem dX2_shareDown_63 : decode cX2_shareDown 63 = .ok (.return_, 1) := by decide +kernel
set_option maxRecDepth 20000 in
theorem ggX2_factor_J6_bitCount_0f7a4 : GoodIn wsX2_factor wsJ6_bitCount_0f7a4 := goodIn_r _ [7, 8, 9, 10] (by decide +kernel) (by decide +kernel)
set_option maxRecDepth 20000 in
theorem gX2_factor_J6_bitCount_0f7a4 : GoodIn wsX2_factor (va_wsS RX2 86 yJ6_bitCount_0f7a4 wsJ6_bitCount_0f7a4) := goodIn_app (goodIn_of _ (by decide +kernel)) ggX2_factor_J6_bitCount_0f7a4
theorem dX2_factor_0 : decode cX2_factor 0 = .ok (.iconst 0, 1) := by decide +kernel
theorem dX2_factor_1 : decode cX2_factor 1 = .ok (.istore_n 3, 1) := by decide +kernel
theorem dX2_factor_2 : decode cX2_factor 2 = .ok (.iconst 0, 1) := by decide +kernel
theorem dX2_factor_3 : decode cX2_factor 3 = .ok (.istore 4, 2) := by decide +kernel
theorem dX2_factor_5 : decode cX2_factor 5 = .ok (.iload 4, 2) := by decide +kernel
theorem dX2_factor_7 : decode cX2_factor 7 = .ok (.iconst 1, 1) := by decide +kernel
theorem dX2_factor_8 : decode cX2_factor 8 = .ok (.aload_n 0, 1) := by decide +kernel
theorem dX2_factor_9 : decode cX2_factor 9 = .ok (.getfield 35, 3) := by decide +kernel
theorem dX2_factor_12 : decode cX2_factor 12 = .ok (.getfield 39, 3) := by decide +kernel
theorem dX2_factor_15 : decode cX2_factor 15 = .ok (.ishl, 1) := by decide +kernel
theorem dX2_factor_16 : decode cX2_factor 16 = .ok (.if_icmp .ge 63, 3) := by decide +kernel
theorem dX2_factor_19 : decode cX2_factor 19 = .ok (.aload_n 0, 1) := by decide +kernel
theorem dX2_factor_20 : decode cX2_factor 20 = .ok (.getfield 15, 3) := by decide +kernel
theorem dX2_factor_23 : decode cX2_factor 23 = .ok (.iload 4, 2) := by decide +kernel
theorem dX2_factor_25 : decode cX2_factor 25 = .ok (.baload, 1) := by decide +kernel
theorem dX2_factor_26 : decode cX2_factor 26 = .ok (.ifCond .eq 47, 3) := by decide +kernel
theorem dX2_factor_29 : decode cX2_factor 29 = .ok (.iload 4, 2) := by decide +kernel
theorem dX2_factor_31 : decode cX2_factor 31 = .ok (.iload_n 2, 1) := by decide +kernel
theorem dX2_factor_32 : decode cX2_factor 32 = .ok (.iand, 1) := by decide +kernel
theorem dX2_factor_33 : decode cX2_factor 33 = .ok (.ifCond .ne 40, 3) := by decide +kernel
theorem dX2_factor_36 : decode cX2_factor 36 = .ok (.aload_n 0, 1) := by decide +kernel
theorem dX2_factor_37 : decode cX2_factor 37 = .ok (.getfield 35, 3) := by decide +kernel
theorem dX2_factor_40 : decode cX2_factor 40 = .ok (.getfield 83, 3) := by decide +kernel
theorem dX2_factor_43 : decode cX2_factor 43 = .ok (.aload_n 0, 1) := by decide +kernel
theorem dX2_factor_44 : decode cX2_factor 44 = .ok (.getfield 9, 3) := by decide +kernel
theorem dX2_factor_47 : decode cX2_factor 47 = .ok (.iload 4, 2) := by decide +kernel
theorem dX2_factor_49 : decode cX2_factor 49 = .ok (.iaload, 1) := by decide +kernel
theorem dX2_factor_50 : decode cX2_factor 50 = .ok (.isub, 1) := by decide +kernel
theorem dX2_factor_51 : decode cX2_factor 51 = .ok (.iload_n 1, 1) := by decide +kernel
theorem dX2_factor_52 : decode cX2_factor 52 = .ok (.if_icmp .ne 21, 3) := by decide +kernel
theorem dX2_factor_55 : decode cX2_factor 55 = .ok (.iload_n 3, 1) := by decide +kernel
theorem dX2_factor_56 : decode cX2_factor 56 = .ok (.iload 4, 2) := by decide +kernel
theorem dX2_factor_58 : decode cX2_factor 58 = .ok (.invokestatic 86, 3) := by decide +kernel
theorem dX2_factor_61 : decode cX2_factor 61 = .ok (.iconst 1, 1) := by decide +kernel
theorem dX2_factor_62 : decode cX2_factor 62 = .ok (.iand, 1) := by decide +kernel
theorem dX2_factor_63 : decode cX2_factor 63 = .ok (.ifCond .ne 7, 3) := by decide +kernel
theorem dX2_factor_66 : decode cX2_factor 66 = .ok (.iconst 1, 1) := by decide +kernel
theorem dX2_factor_67 : decode cX2_factor 67 = .ok (.goto 4, 3) := by decide +kernel
theorem dX2_factor_70 : decode cX2_factor 70 = .ok (.iconst (-1), 1) := by decide +kernel
theorem dX2_factor_71 : decode cX2_factor 71 = .ok (.iadd, 1) := by decide +kernel
theorem dX2_factor_72 : decode cX2_factor 72 = .ok (.istore_n 3, 1) := by decide +kernel
theorem dX2_factor_73 : decode cX2_factor 73 = .ok (.iinc 4 1, 3) := by decide +kernel
theorem dX2_factor_76 : decode cX2_factor 76 = .ok (.goto (-71), 3) := by decide +kernel
theorem dX2_factor_79 : decode cX2_factor 79 = .ok (.iload_n 3, 1) := by decide +kernel
theorem dX2_factor_80 : decode cX2_factor 80 = .ok (.ireturn, 1) := by decide +kernel
theorem dX3_init_0 : decode cX3_init 0 = .ok (.aload_n 0, 1) := by decide +kernel
theorem dX3_init_1 : decode cX3_init 1 = .ok (.invokespecial 3, 3) := by decide +kernel
theorem dX3_init_4 : decode cX3_init 4 = .ok (.aload_n 0, 1) := by decide +kernel
theorem dX3_init_5 : decode cX3_init 5 = .ok (.bipush 11, 2) := by decide +kernel
theorem dX3_init_7 : decode cX3_init 7 = .ok (.newarray .int, 2) := by decide +kernel
theorem dX3_init_9 : decode cX3_init 9 = .ok (.putfield 9, 3) := by decide +kernel
theorem dX3_init_12 : decode cX3_init 12 = .ok (.aload_n 0, 1) := by decide +kernel
theorem dX3_init_13 : decode cX3_init 13 = .ok (.bipush 11, 2) := by decide +kernel
theorem dX3_init_15 : decode cX3_init 15 = .ok (.newarray .int, 2) := by decide +kernel
theorem dX3_init_17 : decode cX3_init 17 = .ok (.putfield 15, 3) := by decide +kernel
theorem dX3_init_20 : decode cX3_init 20 = .ok (.aload_n 0, 1) := by decide +kernel
theorem dX3_init_21 : decode cX3_init 21 = .ok (.bipush 11, 2) := by decide +kernel
theorem dX3_init_23 : decode cX3_init 23 = .ok (.newarray .int, 2) := by decide +kernel
theorem dX3_init_25 : decode cX3_init 25 = .ok (.putfield 18, 3) := by decide +kernel
theorem dX3_init_28 : decode cX3_init 28 = .ok (.aload_n 0, 1) := by decide +kernel
theorem dX3_init_29 : decode cX3_init 29 = .ok (.bipush 11, 2) := by decide +kernel
theorem dX3_init_31 : decode cX3_init 31 = .ok (.newarray .int, 2) := by decide +kernel
theorem dX3_init_33 : decode cX3_init 33 = .ok (.putfield 21, 3) := by decide +kernel
theorem dX3_init_36 : decode cX3_init 36 = .ok (.aload_n 0, 1) := by decide +kernel
theorem dX3_init_37 : decode cX3_init 37 = .ok (.sipush 256, 3) := by decide +kernel
theorem dX3_init_40 : decode cX3_init 40 = .ok (.newarray .int, 2) := by decide +kernel
theorem dX3_init_42 : decode cX3_init 42 = .ok (.putfield 24, 3) := by decide +kernel
theorem dX3_init_45 : decode cX3_init 45 = .ok (.aload_n 0, 1) := by decide +kernel
theorem dX3_init_46 : decode cX3_init 46 = .ok (.iload_n 1, 1) := by decide +kernel
theorem dX3_init_47 : decode cX3_init 47 = .ok (.putfield 27, 3) := by decide +kernel
theorem dX3_init_50 : decode cX3_init 50 = .ok (.aload_n 0, 1) := by decide +kernel
theorem dX3_init_51 : decode cX3_init 51 = .ok (.getfield 9, 3) := by decide +kernel
theorem dX3_init_54 : decode cX3_init 54 = .ok (.bipush 8, 2) := by decide +kernel
theorem dX3_init_56 : decode cX3_init 56 = .ok (.iconst 1, 1) := by decide +kernel
theorem dX3_init_57 : decode cX3_init 57 = .ok (.iastore, 1) := by decide +kernel
theorem dX3_init_58 : decode cX3_init 58 = .ok (.aload_n 0, 1) := by decide +kernel
theorem dX3_init_59 : decode cX3_init 59 = .ok (.getfield 15, 3) := by decide +kernel
theorem dX3_init_62 : decode cX3_init 62 = .ok (.bipush 9, 2) := by decide +kernel
theorem dX3_init_64 : decode cX3_init 64 = .ok (.iconst 1, 1) := by decide +kernel
theorem dX3_init_65 : decode cX3_init 65 = .ok (.iastore, 1) := by decide +kernel
theorem dX3_init_66 : decode cX3_init 66 = .ok (.aload_n 0, 1) := by decide +kernel
theorem dX3_init_67 : decode cX3_init 67 = .ok (.getfield 18, 3) := by decide +kernel
theorem dX3_init_70 : decode cX3_init 70 = .ok (.bipush 10, 2) := by decide +kernel
theorem dX3_init_72 : decode cX3_init 72 = .ok (.iconst 1, 1) := by decide +kernel
theorem dX3_init_73 : decode cX3_init 73 = .ok (.iastore, 1) := by decide +kernel
theorem dX3_init_74 : decode cX3_init 74 = .ok (.aload_n 0, 1) := by decide +kernel
theorem dX3_init_75 : decode cX3_init 75 = .ok (.iconst 0, 1) := by decide +kernel
theorem dX3_init_76 : decode cX3_init 76 = .ok (.putfield 31, 3) := by decide +kernel
theorem dX3_init_79 : decode cX3_init 79 = .ok (.iconst 0, 1) := by decide +kernel
theorem dX3_init_80 : decode cX3_init 80 = .ok (.istore_n 2, 1) := by decide +kernel
theorem dX3_init_81 : decode cX3_init 81 = .ok (.iload_n 2, 1) := by decide +kernel
theorem dX3_init_82 : decode cX3_init 82 = .ok (.bipush 8, 2) := by decide +kernel
theorem dX3_init_84 : decode cX3_init 84 = .ok (.if_icmp .ge 46, 3) := by decide +kernel
theorem dX3_init_87 : decode cX3_init 87 = .ok (.iconst 0, 1) := by decide +kernel
theorem dX3_init_88 : decode cX3_init 88 = .ok (.istore_n 3, 1) := by decide +kernel
theorem dX3_init_89 : decode cX3_init 89 = .ok (.iload_n 3, 1) := by decide +kernel
theorem dX3_init_90 : decode cX3_init 90 = .ok (.iconst 1, 1) := by decide +kernel
theorem dX3_init_91 : decode cX3_init 91 = .ok (.iload_n 2, 1) := by decide +kernel
theorem dX3_init_92 : decode cX3_init 92 = .ok (.ishl, 1) := by decide +kernel
theorem dX3_init_93 : decode cX3_init 93 = .ok (.if_icmp .ge 31, 3) := by decide +kernel
theorem dX3_init_96 : decode cX3_init 96 = .ok (.aload_n 0, 1) := by decide +kernel
theorem dX3_init_97 : decode cX3_init 97 = .ok (.getfield 24, 3) := by decide +kernel
theorem dX3_init_100 : decode cX3_init 100 = .ok (.iload_n 3, 1) := by decide +kernel
theorem dX3_init_101 : decode cX3_init 101 = .ok (.iconst 1, 1) := by decide +kernel
theorem dX3_init_102 : decode cX3_init 102 = .ok (.iload_n 2, 1) := by decide +kernel
theorem dX3_init_103 : decode cX3_init 103 = .ok (.ishl, 1) := by decide +kernel
theorem dX3_init_104 : decode cX3_init 104 = .ok (.ior, 1) := by decide +kernel
theorem dX3_init_105 : decode cX3_init 105 = .ok (.aload_n 0, 1) := by decide +kernel
theorem dX3_init_106 : decode cX3_init 106 = .ok (.getfield 24, 3) := by decide +kernel
theorem dX3_init_109 : decode cX3_init 109 = .ok (.iload_n 3, 1) := by decide +kernel
theorem dX3_init_110 : decode cX3_init 110 = .ok (.iaload, 1) := by decide +kernel
theorem dX3_init_111 : decode cX3_init 111 = .ok (.getstatic 34, 3) := by decide +kernel
theorem dX3_init_114 : decode cX3_init 114 = .ok (.iload_n 2, 1) := by decide +kernel
theorem dX3_init_115 : decode cX3_init 115 = .ok (.iaload, 1) := by decide +kernel
theorem dX3_init_116 : decode cX3_init 116 = .ok (.iadd, 1) := by decide +kernel
theorem dX3_init_117 : decode cX3_init 117 = .ok (.iastore, 1) := by decide +kernel
theorem dX3_init_118 : decode cX3_init 118 = .ok (.iinc 3 1, 3) := by decide +kernel
theorem dX3_init_121 : decode cX3_init 121 = .ok (.goto (-32), 3) := by decide +kernel
theorem dX3_init_124 : decode cX3_init 124 = .ok (.iinc 2 1, 3) := by decide +kernel
theorem dX3_init_127 : decode cX3_init 127 = .ok (.goto (-46), 3) := by decide +kernel
theorem dX3_init_130 : decode cX3_init 130 = .ok (.return_, 1) := by decide +kernel
theorem dX3_holds_0 : decode cX3_holds 0 = .ok (.iload_n 1, 1) := by decide +kernel
theorem dX3_holds_1 : decode cX3_holds 1 = .ok (.ifCond .lt 15, 3) := by decide +kernel
theorem dX3_holds_4 : decode cX3_holds 4 = .ok (.iload_n 1, 1) := by decide +kernel
theorem dX3_holds_5 : decode cX3_holds 5 = .ok (.aload_n 0, 1) := by decide +kernel
theorem dX3_holds_6 : decode cX3_holds 6 = .ok (.getfield 31, 3) := by decide +kernel
theorem dX3_holds_9 : decode cX3_holds 9 = .ok (.if_icmp .ge 7, 3) := by decide +kernel
theorem dX3_holds_12 : decode cX3_holds 12 = .ok (.iconst 1, 1) := by decide +kernel
theorem dX3_holds_13 : decode cX3_holds 13 = .ok (.goto 4, 3) := by decide +kernel
theorem dX3_holds_16 : decode cX3_holds 16 = .ok (.iconst 0, 1) := by decide +kernel
theorem dX3_holds_17 : decode cX3_holds 17 = .ok (.ireturn, 1) := by decide +kernel
set_option maxRecDepth 20000 in
theorem ggX3_isPlane_X3_isWithin : GoodIn wsX3_isPlane wsX3_isWithin := goodIn_r _ [5] (by decide +kernel) (by decide +kernel)
set_option maxRecDepth 20000 in
theorem gX3_isPlane_X3_isWithin : GoodIn wsX3_isPlane (va_wsS RX3 37 yX3_isWithin wsX3_isWithin) := goodIn_app (goodIn_of _ (by decide +kernel)) ggX3_isPlane_X3_isWithin
theorem dX3_isPlane_0 : decode cX3_isPlane 0 = .ok (.iload_n 1, 1) := by decide +kernel
theorem dX3_isPlane_1 : decode cX3_isPlane 1 = .ok (.bipush 9, 2) := by decide +kernel
theorem dX3_isPlane_3 : decode cX3_isPlane 3 = .ok (.invokestatic 37, 3) := by decide +kernel
theorem dX3_isPlane_6 : decode cX3_isPlane 6 = .ok (.ifCond .eq 31, 3) := by decide +kernel
theorem dX3_isPlane_9 : decode cX3_isPlane 9 = .ok (.iload_n 2, 1) := by decide +kernel
theorem dX3_isPlane_10 : decode cX3_isPlane 10 = .ok (.bipush 9, 2) := by decide +kernel
theorem dX3_isPlane_12 : decode cX3_isPlane 12 = .ok (.invokestatic 37, 3) := by decide +kernel
theorem dX3_isPlane_15 : decode cX3_isPlane 15 = .ok (.ifCond .eq 22, 3) := by decide +kernel
theorem dX3_isPlane_18 : decode cX3_isPlane 18 = .ok (.iload_n 3, 1) := by decide +kernel
theorem dX3_isPlane_19 : decode cX3_isPlane 19 = .ok (.bipush 9, 2) := by decide +kernel
theorem dX3_isPlane_21 : decode cX3_isPlane 21 = .ok (.invokestatic 37, 3) := by decide +kernel
theorem dX3_isPlane_24 : decode cX3_isPlane 24 = .ok (.ifCond .eq 13, 3) := by decide +kernel
theorem dX3_isPlane_27 : decode cX3_isPlane 27 = .ok (.iload 4, 2) := by decide +kernel
theorem dX3_isPlane_29 : decode cX3_isPlane 29 = .ok (.bipush 99, 2) := by decide +kernel
theorem dX3_isPlane_31 : decode cX3_isPlane 31 = .ok (.invokestatic 37, 3) := by decide +kernel
theorem dX3_isPlane_34 : decode cX3_isPlane 34 = .ok (.ifCond .ne 5, 3) := by decide +kernel
theorem dX3_isPlane_37 : decode cX3_isPlane 37 = .ok (.iconst 0, 1) := by decide +kernel
theorem dX3_isPlane_38 : decode cX3_isPlane 38 = .ok (.ireturn, 1) := by decide +kernel
theorem dX3_isPlane_39 : decode cX3_isPlane 39 = .ok (.aload_n 0, 1) := by decide +kernel
theorem dX3_isPlane_40 : decode cX3_isPlane 40 = .ok (.getfield 27, 3) := by decide +kernel
theorem dX3_isPlane_43 : decode cX3_isPlane 43 = .ok (.iconst 2, 1) := by decide +kernel
theorem dX3_isPlane_44 : decode cX3_isPlane 44 = .ok (.if_icmp .ge 7, 3) := by decide +kernel
theorem dX3_isPlane_47 : decode cX3_isPlane 47 = .ok (.iload_n 2, 1) := by decide +kernel
theorem dX3_isPlane_48 : decode cX3_isPlane 48 = .ok (.ifCond .ne 15, 3) := by decide +kernel
theorem dX3_isPlane_51 : decode cX3_isPlane 51 = .ok (.aload_n 0, 1) := by decide +kernel
theorem dX3_isPlane_52 : decode cX3_isPlane 52 = .ok (.getfield 27, 3) := by decide +kernel
theorem dX3_isPlane_55 : decode cX3_isPlane 55 = .ok (.iconst 3, 1) := by decide +kernel
theorem dX3_isPlane_56 : decode cX3_isPlane 56 = .ok (.if_icmp .ge 9, 3) := by decide +kernel
theorem dX3_isPlane_59 : decode cX3_isPlane 59 = .ok (.iload_n 3, 1) := by decide +kernel
theorem dX3_isPlane_60 : decode cX3_isPlane 60 = .ok (.ifCond .eq 5, 3) := by decide +kernel
theorem dX3_isPlane_63 : decode cX3_isPlane 63 = .ok (.iconst 0, 1) := by decide +kernel
theorem dX3_isPlane_64 : decode cX3_isPlane 64 = .ok (.ireturn, 1) := by decide +kernel
theorem dX3_isPlane_65 : decode cX3_isPlane 65 = .ok (.iload_n 1, 1) := by decide +kernel
theorem dX3_isPlane_66 : decode cX3_isPlane 66 = .ok (.ifCond .ne 11, 3) := by decide +kernel
theorem dX3_isPlane_69 : decode cX3_isPlane 69 = .ok (.iload_n 2, 1) := by decide +kernel
theorem dX3_isPlane_70 : decode cX3_isPlane 70 = .ok (.ifCond .ne 7, 3) := by decide +kernel
theorem dX3_isPlane_73 : decode cX3_isPlane 73 = .ok (.iload_n 3, 1) := by decide +kernel
theorem dX3_isPlane_74 : decode cX3_isPlane 74 = .ok (.ifCond .eq 7, 3) := by decide +kernel
theorem dX3_isPlane_77 : decode cX3_isPlane 77 = .ok (.iconst 1, 1) := by decide +kernel
theorem dX3_isPlane_78 : decode cX3_isPlane 78 = .ok (.goto 4, 3) := by decide +kernel
theorem dX3_isPlane_81 : decode cX3_isPlane 81 = .ok (.iconst 0, 1) := by decide +kernel
theorem dX3_isPlane_82 : decode cX3_isPlane 82 = .ok (.ireturn, 1) := by decide +kernel
theorem dX3_isWithin_0 : decode cX3_isWithin 0 = .ok (.iload_n 0, 1) := by decide +kernel
theorem dX3_isWithin_1 : decode cX3_isWithin 1 = .ok (.iload_n 1, 1) := by decide +kernel
theorem dX3_isWithin_2 : decode cX3_isWithin 2 = .ok (.ineg, 1) := by decide +kernel
theorem dX3_isWithin_3 : decode cX3_isWithin 3 = .ok (.if_icmp .lt 12, 3) := by decide +kernel
theorem dX3_isWithin_6 : decode cX3_isWithin 6 = .ok (.iload_n 0, 1) := by decide +kernel
theorem dX3_isWithin_7 : decode cX3_isWithin 7 = .ok (.iload_n 1, 1) := by decide +kernel
theorem dX3_isWithin_8 : decode cX3_isWithin 8 = .ok (.if_icmp .gt 7, 3) := by decide +kernel
theorem dX3_isWithin_11 : decode cX3_isWithin 11 = .ok (.iconst 1, 1) := by decide +kernel
theorem dX3_isWithin_12 : decode cX3_isWithin 12 = .ok (.goto 4, 3) := by decide +kernel
theorem dX3_isWithin_15 : decode cX3_isWithin 15 = .ok (.iconst 0, 1) := by decide +kernel
theorem dX3_isWithin_16 : decode cX3_isWithin 16 = .ok (.ireturn, 1) := by decide +kernel
theorem dX3_isThere_0 : decode cX3_isThere 0 = .ok (.iconst 0, 1) := by decide +kernel
theorem dX3_isThere_1 : decode cX3_isThere 1 = .ok (.istore 5, 2) := by decide +kernel
theorem dX3_isThere_3 : decode cX3_isThere 3 = .ok (.iload 5, 2) := by decide +kernel
theorem dX3_isThere_5 : decode cX3_isThere 5 = .ok (.aload_n 0, 1) := by decide +kernel
theorem dX3_isThere_6 : decode cX3_isThere 6 = .ok (.getfield 31, 3) := by decide +kernel
theorem dX3_isThere_9 : decode cX3_isThere 9 = .ok (.if_icmp .ge 140, 3) := by decide +kernel
theorem dX3_isThere_12 : decode cX3_isThere 12 = .ok (.aload_n 0, 1) := by decide +kernel
theorem dX3_isThere_13 : decode cX3_isThere 13 = .ok (.getfield 9, 3) := by decide +kernel
theorem dX3_isThere_16 : decode cX3_isThere 16 = .ok (.iload 5, 2) := by decide +kernel
theorem dX3_isThere_18 : decode cX3_isThere 18 = .ok (.iaload, 1) := by decide +kernel
theorem dX3_isThere_19 : decode cX3_isThere 19 = .ok (.iload_n 2, 1) := by decide +kernel
theorem dX3_isThere_20 : decode cX3_isThere 20 = .ok (.imul, 1) := by decide +kernel
theorem dX3_isThere_21 : decode cX3_isThere 21 = .ok (.aload_n 0, 1) := by decide +kernel
theorem dX3_isThere_22 : decode cX3_isThere 22 = .ok (.getfield 15, 3) := by decide +kernel
theorem dX3_isThere_25 : decode cX3_isThere 25 = .ok (.iload 5, 2) := by decide +kernel
theorem dX3_isThere_27 : decode cX3_isThere 27 = .ok (.iaload, 1) := by decide +kernel
theorem dX3_isThere_28 : decode cX3_isThere 28 = .ok (.iload_n 1, 1) := by decide +kernel
theorem dX3_isThere_29 : decode cX3_isThere 29 = .ok (.imul, 1) := by decide +kernel
theorem dX3_isThere_30 : decode cX3_isThere 30 = .ok (.if_icmp .ne 113, 3) := by decide +kernel
theorem dX3_isThere_33 : decode cX3_isThere 33 = .ok (.aload_n 0, 1) := by decide +kernel
theorem dX3_isThere_34 : decode cX3_isThere 34 = .ok (.getfield 9, 3) := by decide +kernel
theorem dX3_isThere_37 : decode cX3_isThere 37 = .ok (.iload 5, 2) := by decide +kernel
theorem dX3_isThere_39 : decode cX3_isThere 39 = .ok (.iaload, 1) := by decide +kernel
theorem dX3_isThere_40 : decode cX3_isThere 40 = .ok (.iload_n 3, 1) := by decide +kernel
theorem dX3_isThere_41 : decode cX3_isThere 41 = .ok (.imul, 1) := by decide +kernel
theorem dX3_isThere_42 : decode cX3_isThere 42 = .ok (.aload_n 0, 1) := by decide +kernel
theorem dX3_isThere_43 : decode cX3_isThere 43 = .ok (.getfield 18, 3) := by decide +kernel
theorem dX3_isThere_46 : decode cX3_isThere 46 = .ok (.iload 5, 2) := by decide +kernel
theorem dX3_isThere_48 : decode cX3_isThere 48 = .ok (.iaload, 1) := by decide +kernel
theorem dX3_isThere_49 : decode cX3_isThere 49 = .ok (.iload_n 1, 1) := by decide +kernel
theorem dX3_isThere_50 : decode cX3_isThere 50 = .ok (.imul, 1) := by decide +kernel
theorem dX3_isThere_51 : decode cX3_isThere 51 = .ok (.if_icmp .ne 92, 3) := by decide +kernel
theorem dX3_isThere_54 : decode cX3_isThere 54 = .ok (.aload_n 0, 1) := by decide +kernel
theorem dX3_isThere_55 : decode cX3_isThere 55 = .ok (.getfield 15, 3) := by decide +kernel
theorem dX3_isThere_58 : decode cX3_isThere 58 = .ok (.iload 5, 2) := by decide +kernel
theorem dX3_isThere_60 : decode cX3_isThere 60 = .ok (.iaload, 1) := by decide +kernel
theorem dX3_isThere_61 : decode cX3_isThere 61 = .ok (.iload_n 3, 1) := by decide +kernel
theorem dX3_isThere_62 : decode cX3_isThere 62 = .ok (.imul, 1) := by decide +kernel
theorem dX3_isThere_63 : decode cX3_isThere 63 = .ok (.aload_n 0, 1) := by decide +kernel
theorem dX3_isThere_64 : decode cX3_isThere 64 = .ok (.getfield 18, 3) := by decide +kernel
theorem dX3_isThere_67 : decode cX3_isThere 67 = .ok (.iload 5, 2) := by decide +kernel
theorem dX3_isThere_69 : decode cX3_isThere 69 = .ok (.iaload, 1) := by decide +kernel
theorem dX3_isThere_70 : decode cX3_isThere 70 = .ok (.iload_n 2, 1) := by decide +kernel
theorem dX3_isThere_71 : decode cX3_isThere 71 = .ok (.imul, 1) := by decide +kernel
theorem dX3_isThere_72 : decode cX3_isThere 72 = .ok (.if_icmp .ne 71, 3) := by decide +kernel
theorem dX3_isThere_75 : decode cX3_isThere 75 = .ok (.aload_n 0, 1) := by decide +kernel
theorem dX3_isThere_76 : decode cX3_isThere 76 = .ok (.getfield 9, 3) := by decide +kernel
theorem dX3_isThere_79 : decode cX3_isThere 79 = .ok (.iload 5, 2) := by decide +kernel
theorem dX3_isThere_81 : decode cX3_isThere 81 = .ok (.iaload, 1) := by decide +kernel
theorem dX3_isThere_82 : decode cX3_isThere 82 = .ok (.iload 4, 2) := by decide +kernel
theorem dX3_isThere_84 : decode cX3_isThere 84 = .ok (.imul, 1) := by decide +kernel
theorem dX3_isThere_85 : decode cX3_isThere 85 = .ok (.aload_n 0, 1) := by decide +kernel
theorem dX3_isThere_86 : decode cX3_isThere 86 = .ok (.getfield 21, 3) := by decide +kernel
theorem dX3_isThere_89 : decode cX3_isThere 89 = .ok (.iload 5, 2) := by decide +kernel
theorem dX3_isThere_91 : decode cX3_isThere 91 = .ok (.iaload, 1) := by decide +kernel
theorem dX3_isThere_92 : decode cX3_isThere 92 = .ok (.iload_n 1, 1) := by decide +kernel
theorem dX3_isThere_93 : decode cX3_isThere 93 = .ok (.imul, 1) := by decide +kernel
theorem dX3_isThere_94 : decode cX3_isThere 94 = .ok (.if_icmp .ne 49, 3) := by decide +kernel
theorem dX3_isThere_97 : decode cX3_isThere 97 = .ok (.aload_n 0, 1) := by decide +kernel
theorem dX3_isThere_98 : decode cX3_isThere 98 = .ok (.getfield 15, 3) := by decide +kernel
theorem dX3_isThere_101 : decode cX3_isThere 101 = .ok (.iload 5, 2) := by decide +kernel
theorem dX3_isThere_103 : decode cX3_isThere 103 = .ok (.iaload, 1) := by decide +kernel
theorem dX3_isThere_104 : decode cX3_isThere 104 = .ok (.iload 4, 2) := by decide +kernel
theorem dX3_isThere_106 : decode cX3_isThere 106 = .ok (.imul, 1) := by decide +kernel
theorem dX3_isThere_107 : decode cX3_isThere 107 = .ok (.aload_n 0, 1) := by decide +kernel
theorem dX3_isThere_108 : decode cX3_isThere 108 = .ok (.getfield 21, 3) := by decide +kernel
theorem dX3_isThere_111 : decode cX3_isThere 111 = .ok (.iload 5, 2) := by decide +kernel
theorem dX3_isThere_113 : decode cX3_isThere 113 = .ok (.iaload, 1) := by decide +kernel
theorem dX3_isThere_114 : decode cX3_isThere 114 = .ok (.iload_n 2, 1) := by decide +kernel
theorem dX3_isThere_115 : decode cX3_isThere 115 = .ok (.imul, 1) := by decide +kernel
theorem dX3_isThere_116 : decode cX3_isThere 116 = .ok (.if_icmp .ne 27, 3) := by decide +kernel
theorem dX3_isThere_119 : decode cX3_isThere 119 = .ok (.aload_n 0, 1) := by decide +kernel
theorem dX3_isThere_120 : decode cX3_isThere 120 = .ok (.getfield 18, 3) := by decide +kernel
theorem dX3_isThere_123 : decode cX3_isThere 123 = .ok (.iload 5, 2) := by decide +kernel
theorem dX3_isThere_125 : decode cX3_isThere 125 = .ok (.iaload, 1) := by decide +kernel
theorem dX3_isThere_126 : decode cX3_isThere 126 = .ok (.iload 4, 2) := by decide +kernel
theorem dX3_isThere_128 : decode cX3_isThere 128 = .ok (.imul, 1) := by decide +kernel
theorem dX3_isThere_129 : decode cX3_isThere 129 = .ok (.aload_n 0, 1) := by decide +kernel
theorem dX3_isThere_130 : decode cX3_isThere 130 = .ok (.getfield 21, 3) := by decide +kernel
theorem dX3_isThere_133 : decode cX3_isThere 133 = .ok (.iload 5, 2) := by decide +kernel
theorem dX3_isThere_135 : decode cX3_isThere 135 = .ok (.iaload, 1) := by decide +kernel
theorem dX3_isThere_136 : decode cX3_isThere 136 = .ok (.iload_n 3, 1) := by decide +kernel
theorem dX3_isThere_137 : decode cX3_isThere 137 = .ok (.imul, 1) := by decide +kernel
theorem dX3_isThere_138 : decode cX3_isThere 138 = .ok (.if_icmp .ne 5, 3) := by decide +kernel
theorem dX3_isThere_141 : decode cX3_isThere 141 = .ok (.iconst 1, 1) := by decide +kernel
theorem dX3_isThere_142 : decode cX3_isThere 142 = .ok (.ireturn, 1) := by decide +kernel
theorem dX3_isThere_143 : decode cX3_isThere 143 = .ok (.iinc 5 1, 3) := by decide +kernel
theorem dX3_isThere_146 : decode cX3_isThere 146 = .ok (.goto (-143), 3) := by decide +kernel
theorem dX3_isThere_149 : decode cX3_isThere 149 = .ok (.iconst 0, 1) := by decide +kernel
theorem dX3_isThere_150 : decode cX3_isThere 150 = .ok (.ireturn, 1) := by decide +kernel
theorem dX3_append_0 : decode cX3_append 0 = .ok (.aload_n 0, 1) := by decide +kernel
theorem dX3_append_1 : decode cX3_append 1 = .ok (.getfield 31, 3) := by decide +kernel
theorem dX3_append_4 : decode cX3_append 4 = .ok (.bipush 8, 2) := by decide +kernel
theorem dX3_append_6 : decode cX3_append 6 = .ok (.if_icmp .lt 4, 3) := by decide +kernel
theorem dX3_append_9 : decode cX3_append 9 = .ok (.return_, 1) := by decide +kernel
theorem dX3_append_10 : decode cX3_append 10 = .ok (.aload_n 0, 1) := by decide +kernel
theorem dX3_append_11 : decode cX3_append 11 = .ok (.getfield 9, 3) := by decide +kernel
theorem dX3_append_14 : decode cX3_append 14 = .ok (.aload_n 0, 1) := by decide +kernel
theorem dX3_append_15 : decode cX3_append 15 = .ok (.getfield 31, 3) := by decide +kernel
theorem dX3_append_18 : decode cX3_append 18 = .ok (.iload_n 1, 1) := by decide +kernel
theorem dX3_append_19 : decode cX3_append 19 = .ok (.iastore, 1) := by decide +kernel
theorem dX3_append_20 : decode cX3_append 20 = .ok (.aload_n 0, 1) := by decide +kernel
theorem dX3_append_21 : decode cX3_append 21 = .ok (.getfield 15, 3) := by decide +kernel
theorem dX3_append_24 : decode cX3_append 24 = .ok (.aload_n 0, 1) := by decide +kernel
theorem dX3_append_25 : decode cX3_append 25 = .ok (.getfield 31, 3) := by decide +kernel
theorem dX3_append_28 : decode cX3_append 28 = .ok (.iload_n 2, 1) := by decide +kernel
theorem dX3_append_29 : decode cX3_append 29 = .ok (.iastore, 1) := by decide +kernel
theorem dX3_append_30 : decode cX3_append 30 = .ok (.aload_n 0, 1) := by decide +kernel
theorem dX3_append_31 : decode cX3_append 31 = .ok (.getfield 18, 3) := by decide +kernel
theorem dX3_append_34 : decode cX3_append 34 = .ok (.aload_n 0, 1) := by decide +kernel
theorem dX3_append_35 : decode cX3_append 35 = .ok (.getfield 31, 3) := by decide +kernel
theorem dX3_append_38 : decode cX3_append 38 = .ok (.iload_n 3, 1) := by decide +kernel
theorem dX3_append_39 : decode cX3_append 39 = .ok (.iastore, 1) := by decide +kernel
theorem dX3_append_40 : decode cX3_append 40 = .ok (.aload_n 0, 1) := by decide +kernel
theorem dX3_append_41 : decode cX3_append 41 = .ok (.getfield 21, 3) := by decide +kernel
theorem dX3_append_44 : decode cX3_append 44 = .ok (.aload_n 0, 1) := by decide +kernel
theorem dX3_append_45 : decode cX3_append 45 = .ok (.getfield 31, 3) := by decide +kernel
theorem dX3_append_48 : decode cX3_append 48 = .ok (.iload 4, 2) := by decide +kernel
theorem dX3_append_50 : decode cX3_append 50 = .ok (.iastore, 1) := by decide +kernel
theorem dX3_append_51 : decode cX3_append 51 = .ok (.aload_n 0, 1) := by decide +kernel
theorem dX3_append_52 : decode cX3_append 52 = .ok (.dup, 1) := by decide +kernel
theorem dX3_append_53 : decode cX3_append 53 = .ok (.getfield 31, 3) := by decide +kernel
theorem dX3_append_56 : decode cX3_append 56 = .ok (.iconst 1, 1) := by decide +kernel
theorem dX3_append_57 : decode cX3_append 57 = .ok (.iadd, 1) := by decide +kernel
theorem dX3_append_58 : decode cX3_append 58 = .ok (.putfield 31, 3) := by decide +kernel
theorem dX3_append_61 : decode cX3_append 61 = .ok (.return_, 1) := by decide +kernel
set_option maxRecDepth 20000 in
theorem ggX3_drop_X3_holds : GoodIn wsX3_drop wsX3_holds := goodIn_r _ [10, 1, 11, 12, 13, 14, 15, 16, 17] (by decide +kernel) (by decide +kernel)
set_option maxRecDepth 20000 in
theorem gX3_drop_X3_holds : GoodIn wsX3_drop (wsV RX3 41 RX3 yX3_holds wsX3_holds) := goodIn_app (goodIn_of _ (by decide +kernel)) ggX3_drop_X3_holds
theorem dX3_drop_0 : decode cX3_drop 0 = .ok (.aload_n 0, 1) := by decide +kernel
theorem dX3_drop_1 : decode cX3_drop 1 = .ok (.iload_n 1, 1) := by decide +kernel
theorem dX3_drop_2 : decode cX3_drop 2 = .ok (.invokevirtual 41, 3) := by decide +kernel
theorem dX3_drop_5 : decode cX3_drop 5 = .ok (.ifCond .ne 4, 3) := by decide +kernel
theorem dX3_drop_8 : decode cX3_drop 8 = .ok (.return_, 1) := by decide +kernel
theorem dX3_drop_9 : decode cX3_drop 9 = .ok (.iload_n 1, 1) := by decide +kernel
theorem dX3_drop_10 : decode cX3_drop 10 = .ok (.istore_n 2, 1) := by decide +kernel
theorem dX3_drop_11 : decode cX3_drop 11 = .ok (.iload_n 2, 1) := by decide +kernel
theorem dX3_drop_12 : decode cX3_drop 12 = .ok (.iconst 1, 1) := by decide +kernel
theorem dX3_drop_13 : decode cX3_drop 13 = .ok (.iadd, 1) := by decide +kernel
theorem dX3_drop_14 : decode cX3_drop 14 = .ok (.aload_n 0, 1) := by decide +kernel
theorem dX3_drop_15 : decode cX3_drop 15 = .ok (.getfield 31, 3) := by decide +kernel
theorem dX3_drop_18 : decode cX3_drop 18 = .ok (.if_icmp .ge 65, 3) := by decide +kernel
theorem dX3_drop_21 : decode cX3_drop 21 = .ok (.aload_n 0, 1) := by decide +kernel
theorem dX3_drop_22 : decode cX3_drop 22 = .ok (.getfield 9, 3) := by decide +kernel
theorem dX3_drop_25 : decode cX3_drop 25 = .ok (.iload_n 2, 1) := by decide +kernel
theorem dX3_drop_26 : decode cX3_drop 26 = .ok (.aload_n 0, 1) := by decide +kernel
theorem dX3_drop_27 : decode cX3_drop 27 = .ok (.getfield 9, 3) := by decide +kernel
theorem dX3_drop_30 : decode cX3_drop 30 = .ok (.iload_n 2, 1) := by decide +kernel
theorem dX3_drop_31 : decode cX3_drop 31 = .ok (.iconst 1, 1) := by decide +kernel
theorem dX3_drop_32 : decode cX3_drop 32 = .ok (.iadd, 1) := by decide +kernel
theorem dX3_drop_33 : decode cX3_drop 33 = .ok (.iaload, 1) := by decide +kernel
theorem dX3_drop_34 : decode cX3_drop 34 = .ok (.iastore, 1) := by decide +kernel
theorem dX3_drop_35 : decode cX3_drop 35 = .ok (.aload_n 0, 1) := by decide +kernel
theorem dX3_drop_36 : decode cX3_drop 36 = .ok (.getfield 15, 3) := by decide +kernel
theorem dX3_drop_39 : decode cX3_drop 39 = .ok (.iload_n 2, 1) := by decide +kernel
theorem dX3_drop_40 : decode cX3_drop 40 = .ok (.aload_n 0, 1) := by decide +kernel
theorem dX3_drop_41 : decode cX3_drop 41 = .ok (.getfield 15, 3) := by decide +kernel
theorem dX3_drop_44 : decode cX3_drop 44 = .ok (.iload_n 2, 1) := by decide +kernel
theorem dX3_drop_45 : decode cX3_drop 45 = .ok (.iconst 1, 1) := by decide +kernel
theorem dX3_drop_46 : decode cX3_drop 46 = .ok (.iadd, 1) := by decide +kernel
theorem dX3_drop_47 : decode cX3_drop 47 = .ok (.iaload, 1) := by decide +kernel
theorem dX3_drop_48 : decode cX3_drop 48 = .ok (.iastore, 1) := by decide +kernel
theorem dX3_drop_49 : decode cX3_drop 49 = .ok (.aload_n 0, 1) := by decide +kernel
theorem dX3_drop_50 : decode cX3_drop 50 = .ok (.getfield 18, 3) := by decide +kernel
theorem dX3_drop_53 : decode cX3_drop 53 = .ok (.iload_n 2, 1) := by decide +kernel
theorem dX3_drop_54 : decode cX3_drop 54 = .ok (.aload_n 0, 1) := by decide +kernel
theorem dX3_drop_55 : decode cX3_drop 55 = .ok (.getfield 18, 3) := by decide +kernel
theorem dX3_drop_58 : decode cX3_drop 58 = .ok (.iload_n 2, 1) := by decide +kernel
theorem dX3_drop_59 : decode cX3_drop 59 = .ok (.iconst 1, 1) := by decide +kernel
theorem dX3_drop_60 : decode cX3_drop 60 = .ok (.iadd, 1) := by decide +kernel
theorem dX3_drop_61 : decode cX3_drop 61 = .ok (.iaload, 1) := by decide +kernel
theorem dX3_drop_62 : decode cX3_drop 62 = .ok (.iastore, 1) := by decide +kernel
theorem dX3_drop_63 : decode cX3_drop 63 = .ok (.aload_n 0, 1) := by decide +kernel
theorem dX3_drop_64 : decode cX3_drop 64 = .ok (.getfield 21, 3) := by decide +kernel
theorem dX3_drop_67 : decode cX3_drop 67 = .ok (.iload_n 2, 1) := by decide +kernel
theorem dX3_drop_68 : decode cX3_drop 68 = .ok (.aload_n 0, 1) := by decide +kernel
theorem dX3_drop_69 : decode cX3_drop 69 = .ok (.getfield 21, 3) := by decide +kernel
theorem dX3_drop_72 : decode cX3_drop 72 = .ok (.iload_n 2, 1) := by decide +kernel
theorem dX3_drop_73 : decode cX3_drop 73 = .ok (.iconst 1, 1) := by decide +kernel
theorem dX3_drop_74 : decode cX3_drop 74 = .ok (.iadd, 1) := by decide +kernel
theorem dX3_drop_75 : decode cX3_drop 75 = .ok (.iaload, 1) := by decide +kernel
theorem dX3_drop_76 : decode cX3_drop 76 = .ok (.iastore, 1) := by decide +kernel
theorem dX3_drop_77 : decode cX3_drop 77 = .ok (.iinc 2 1, 3) := by decide +kernel
theorem dX3_drop_80 : decode cX3_drop 80 = .ok (.goto (-69), 3) := by decide +kernel
theorem dX3_drop_83 : decode cX3_drop 83 = .ok (.aload_n 0, 1) := by decide +kernel
theorem dX3_drop_84 : decode cX3_drop 84 = .ok (.dup, 1) := by decide +kernel
theorem dX3_drop_85 : decode cX3_drop 85 = .ok (.getfield 31, 3) := by decide +kernel
theorem dX3_drop_88 : decode cX3_drop 88 = .ok (.iconst 1, 1) := by decide +kernel
theorem dX3_drop_89 : decode cX3_drop 89 = .ok (.isub, 1) := by decide +kernel
theorem dX3_drop_90 : decode cX3_drop 90 = .ok (.putfield 31, 3) := by decide +kernel
theorem dX3_drop_93 : decode cX3_drop 93 = .ok (.return_, 1) := by decide +kernel
theorem dX3_indexOf_0 : decode cX3_indexOf 0 = .ok (.iload_n 1, 1) := by decide +kernel
theorem dX3_indexOf_1 : decode cX3_indexOf 1 = .ok (.aload_n 0, 1) := by decide +kernel
theorem dX3_indexOf_2 : decode cX3_indexOf 2 = .ok (.getfield 31, 3) := by decide +kernel
theorem dX3_indexOf_5 : decode cX3_indexOf 5 = .ok (.if_icmp .ge 7, 3) := by decide +kernel
theorem dX3_indexOf_8 : decode cX3_indexOf 8 = .ok (.iload_n 1, 1) := by decide +kernel
theorem dX3_indexOf_9 : decode cX3_indexOf 9 = .ok (.goto 17, 3) := by decide +kernel
theorem dX3_indexOf_12 : decode cX3_indexOf 12 = .ok (.bipush 8, 2) := by decide +kernel
theorem dX3_indexOf_14 : decode cX3_indexOf 14 = .ok (.iload_n 1, 1) := by decide +kernel
theorem dX3_indexOf_15 : decode cX3_indexOf 15 = .ok (.iadd, 1) := by decide +kernel
theorem dX3_indexOf_16 : decode cX3_indexOf 16 = .ok (.aload_n 0, 1) := by decide +kernel
theorem dX3_indexOf_17 : decode cX3_indexOf 17 = .ok (.getfield 31, 3) := by decide +kernel
theorem dX3_indexOf_20 : decode cX3_indexOf 20 = .ok (.isub, 1) := by decide +kernel
theorem dX3_indexOf_21 : decode cX3_indexOf 21 = .ok (.bipush 10, 2) := by decide +kernel
theorem dX3_indexOf_23 : decode cX3_indexOf 23 = .ok (.invokestatic 45, 3) := by decide +kernel
theorem dX3_indexOf_26 : decode cX3_indexOf 26 = .ok (.ireturn, 1) := by decide +kernel
theorem dX3_signs_0 : decode cX3_signs 0 = .ok (.iconst 0, 1) := by decide +kernel
theorem dX3_signs_1 : decode cX3_signs 1 = .ok (.istore 5, 2) := by decide +kernel
theorem dX3_signs_3 : decode cX3_signs 3 = .ok (.iconst 0, 1) := by decide +kernel
theorem dX3_signs_4 : decode cX3_signs 4 = .ok (.istore 6, 2) := by decide +kernel
theorem dX3_signs_6 : decode cX3_signs 6 = .ok (.iload 6, 2) := by decide +kernel
theorem dX3_signs_8 : decode cX3_signs 8 = .ok (.aload_n 0, 1) := by decide +kernel
theorem dX3_signs_9 : decode cX3_signs 9 = .ok (.getfield 31, 3) := by decide +kernel
theorem dX3_signs_12 : decode cX3_signs 12 = .ok (.if_icmp .ge 85, 3) := by decide +kernel
theorem dX3_signs_15 : decode cX3_signs 15 = .ok (.aload_n 0, 1) := by decide +kernel
theorem dX3_signs_16 : decode cX3_signs 16 = .ok (.getfield 9, 3) := by decide +kernel
theorem dX3_signs_19 : decode cX3_signs 19 = .ok (.iload 6, 2) := by decide +kernel
theorem dX3_signs_21 : decode cX3_signs 21 = .ok (.iaload, 1) := by decide +kernel
theorem dX3_signs_22 : decode cX3_signs 22 = .ok (.iload_n 1, 1) := by decide +kernel
theorem dX3_signs_23 : decode cX3_signs 23 = .ok (.imul, 1) := by decide +kernel
theorem dX3_signs_24 : decode cX3_signs 24 = .ok (.aload_n 0, 1) := by decide +kernel
theorem dX3_signs_25 : decode cX3_signs 25 = .ok (.getfield 15, 3) := by decide +kernel
theorem dX3_signs_28 : decode cX3_signs 28 = .ok (.iload 6, 2) := by decide +kernel
theorem dX3_signs_30 : decode cX3_signs 30 = .ok (.iaload, 1) := by decide +kernel
theorem dX3_signs_31 : decode cX3_signs 31 = .ok (.iload_n 2, 1) := by decide +kernel
theorem dX3_signs_32 : decode cX3_signs 32 = .ok (.imul, 1) := by decide +kernel
theorem dX3_signs_33 : decode cX3_signs 33 = .ok (.iadd, 1) := by decide +kernel
theorem dX3_signs_34 : decode cX3_signs 34 = .ok (.aload_n 0, 1) := by decide +kernel
theorem dX3_signs_35 : decode cX3_signs 35 = .ok (.getfield 18, 3) := by decide +kernel
theorem dX3_signs_38 : decode cX3_signs 38 = .ok (.iload 6, 2) := by decide +kernel
theorem dX3_signs_40 : decode cX3_signs 40 = .ok (.iaload, 1) := by decide +kernel
theorem dX3_signs_41 : decode cX3_signs 41 = .ok (.iload_n 3, 1) := by decide +kernel
theorem dX3_signs_42 : decode cX3_signs 42 = .ok (.imul, 1) := by decide +kernel
theorem dX3_signs_43 : decode cX3_signs 43 = .ok (.iadd, 1) := by decide +kernel
theorem dX3_signs_44 : decode cX3_signs 44 = .ok (.aload_n 0, 1) := by decide +kernel
theorem dX3_signs_45 : decode cX3_signs 45 = .ok (.getfield 21, 3) := by decide +kernel
theorem dX3_signs_48 : decode cX3_signs 48 = .ok (.iload 6, 2) := by decide +kernel
theorem dX3_signs_50 : decode cX3_signs 50 = .ok (.iaload, 1) := by decide +kernel
theorem dX3_signs_51 : decode cX3_signs 51 = .ok (.iload 4, 2) := by decide +kernel
theorem dX3_signs_53 : decode cX3_signs 53 = .ok (.imul, 1) := by decide +kernel
theorem dX3_signs_54 : decode cX3_signs 54 = .ok (.isub, 1) := by decide +kernel
theorem dX3_signs_55 : decode cX3_signs 55 = .ok (.istore 7, 2) := by decide +kernel
theorem dX3_signs_57 : decode cX3_signs 57 = .ok (.iload 7, 2) := by decide +kernel
theorem dX3_signs_59 : decode cX3_signs 59 = .ok (.ifCond .ne 15, 3) := by decide +kernel
theorem dX3_signs_62 : decode cX3_signs 62 = .ok (.iload 5, 2) := by decide +kernel
theorem dX3_signs_64 : decode cX3_signs 64 = .ok (.iconst 1, 1) := by decide +kernel
theorem dX3_signs_65 : decode cX3_signs 65 = .ok (.iload 6, 2) := by decide +kernel
theorem dX3_signs_67 : decode cX3_signs 67 = .ok (.ishl, 1) := by decide +kernel
theorem dX3_signs_68 : decode cX3_signs 68 = .ok (.ior, 1) := by decide +kernel
theorem dX3_signs_69 : decode cX3_signs 69 = .ok (.istore 5, 2) := by decide +kernel
theorem dX3_signs_71 : decode cX3_signs 71 = .ok (.goto 20, 3) := by decide +kernel
theorem dX3_signs_74 : decode cX3_signs 74 = .ok (.iload 7, 2) := by decide +kernel
theorem dX3_signs_76 : decode cX3_signs 76 = .ok (.ifCond .le 15, 3) := by decide +kernel
theorem dX3_signs_79 : decode cX3_signs 79 = .ok (.iload 5, 2) := by decide +kernel
theorem dX3_signs_81 : decode cX3_signs 81 = .ok (.iconst 1, 1) := by decide +kernel
theorem dX3_signs_82 : decode cX3_signs 82 = .ok (.iload 6, 2) := by decide +kernel
theorem dX3_signs_84 : decode cX3_signs 84 = .ok (.bipush 8, 2) := by decide +kernel
theorem dX3_signs_86 : decode cX3_signs 86 = .ok (.iadd, 1) := by decide +kernel
theorem dX3_signs_87 : decode cX3_signs 87 = .ok (.ishl, 1) := by decide +kernel
theorem dX3_signs_88 : decode cX3_signs 88 = .ok (.ior, 1) := by decide +kernel
theorem dX3_signs_89 : decode cX3_signs 89 = .ok (.istore 5, 2) := by decide +kernel
theorem dX3_signs_91 : decode cX3_signs 91 = .ok (.iinc 6 1, 3) := by decide +kernel
theorem dX3_signs_94 : decode cX3_signs 94 = .ok (.goto (-88), 3) := by decide +kernel
theorem dX3_signs_97 : decode cX3_signs 97 = .ok (.iload 5, 2) := by decide +kernel
theorem dX3_signs_99 : decode cX3_signs 99 = .ok (.ireturn, 1) := by decide +kernel
set_option maxRecDepth 20000 in
theorem ggX3_rowOf_X5_onMask : GoodIn wsX3_rowOf wsX5_onMask := goodIn_r _ [4] (by decide +kernel) (by decide +kernel)
set_option maxRecDepth 20000 in
theorem gX3_rowOf_X5_onMask_n51 : GoodIn wsX3_rowOf (wsX5_onMask) := ggX3_rowOf_X5_onMask
set_option maxRecDepth 20000 in
theorem ggX3_rowOf_X5_aboveMask : GoodIn wsX3_rowOf wsX5_aboveMask := goodIn_r _ [6] (by decide +kernel) (by decide +kernel)
set_option maxRecDepth 20000 in
theorem gX3_rowOf_X5_aboveMask_n55 : GoodIn wsX3_rowOf (wsX5_aboveMask) := ggX3_rowOf_X5_aboveMask
theorem dX3_rowOf_0 : decode cX3_rowOf 0 = .ok (.aload_n 0, 1) := by decide +kernel
theorem dX3_rowOf_1 : decode cX3_rowOf 1 = .ok (.getfield 24, 3) := by decide +kernel
theorem dX3_rowOf_4 : decode cX3_rowOf 4 = .ok (.iload_n 1, 1) := by decide +kernel
theorem dX3_rowOf_5 : decode cX3_rowOf 5 = .ok (.invokestatic 51, 3) := by decide +kernel
theorem dX3_rowOf_8 : decode cX3_rowOf 8 = .ok (.iaload, 1) := by decide +kernel
theorem dX3_rowOf_9 : decode cX3_rowOf 9 = .ok (.iconst 2, 1) := by decide +kernel
theorem dX3_rowOf_10 : decode cX3_rowOf 10 = .ok (.aload_n 0, 1) := by decide +kernel
theorem dX3_rowOf_11 : decode cX3_rowOf 11 = .ok (.getfield 24, 3) := by decide +kernel
theorem dX3_rowOf_14 : decode cX3_rowOf 14 = .ok (.iload_n 1, 1) := by decide +kernel
theorem dX3_rowOf_15 : decode cX3_rowOf 15 = .ok (.invokestatic 55, 3) := by decide +kernel
theorem dX3_rowOf_18 : decode cX3_rowOf 18 = .ok (.iaload, 1) := by decide +kernel
theorem dX3_rowOf_19 : decode cX3_rowOf 19 = .ok (.imul, 1) := by decide +kernel
theorem dX3_rowOf_20 : decode cX3_rowOf 20 = .ok (.iadd, 1) := by decide +kernel
theorem dX3_rowOf_21 : decode cX3_rowOf 21 = .ok (.ireturn, 1) := by decide +kernel
theorem dX4_init_0 : decode cX4_init 0 = .ok (.aload_n 0, 1) := by decide +kernel
theorem dX4_init_1 : decode cX4_init 1 = .ok (.invokespecial 3, 3) := by decide +kernel
theorem dX4_init_4 : decode cX4_init 4 = .ok (.aload_n 0, 1) := by decide +kernel
theorem dX4_init_5 : decode cX4_init 5 = .ok (.bipush 8, 2) := by decide +kernel
theorem dX4_init_7 : decode cX4_init 7 = .ok (.newarray .int, 2) := by decide +kernel
theorem dX4_init_9 : decode cX4_init 9 = .ok (.putfield 9, 3) := by decide +kernel
theorem dX4_init_12 : decode cX4_init 12 = .ok (.aload_n 0, 1) := by decide +kernel
theorem dX4_init_13 : decode cX4_init 13 = .ok (.aload_n 1, 1) := by decide +kernel
theorem dX4_init_14 : decode cX4_init 14 = .ok (.putfield 15, 3) := by decide +kernel
theorem dX4_init_17 : decode cX4_init 17 = .ok (.return_, 1) := by decide +kernel
set_option maxRecDepth 20000 in
theorem ggX4_countMissed_J9_floorMod_7cf53 : GoodIn wsX4_countMissed wsJ9_floorMod_7cf53 := goodIn_r _ [6] (by decide +kernel) (by decide +kernel)
set_option maxRecDepth 20000 in
theorem gX4_countMissed_J9_floorMod_7cf53 : GoodIn wsX4_countMissed (va_wsS RX4 28 yJ9_floorMod_7cf53 wsJ9_floorMod_7cf53) := goodIn_app (goodIn_of _ (by decide +kernel)) ggX4_countMissed_J9_floorMod_7cf53
set_option maxRecDepth 20000 in
theorem ggX4_countMissed_X4_inverse : GoodIn wsX4_countMissed wsX4_inverse := goodIn_r _ [10] (by decide +kernel) (by decide +kernel)
set_option maxRecDepth 20000 in
theorem gX4_countMissed_X4_inverse : GoodIn wsX4_countMissed (va_wsS RX4 34 yX4_inverse wsX4_inverse) := goodIn_app (goodIn_of _ (by decide +kernel)) ggX4_countMissed_X4_inverse
set_option maxRecDepth 20000 in
theorem ggX4_countMissed_X4_hits : GoodIn wsX4_countMissed wsX4_hits := goodIn_r _ [14, 1, 2, 3, 4, 5, 6, 22, 23, 24, 25, 26, 27, 28, 29, 30] (by decide +kernel) (by decide +kernel)
set_option maxRecDepth 20000 in
theorem gX4_countMissed_X4_hits : GoodIn wsX4_countMissed (wsV RX4 40 RX4 yX4_hits wsX4_hits) := goodIn_app (goodIn_of _ (by decide +kernel)) ggX4_countMissed_X4_hits
set_option maxRecDepth 20000 in
theorem ggX4_countMissed_J6_bitCount_0f7a4 : GoodIn wsX4_countMissed wsJ6_bitCount_0f7a4 := goodIn_r _ [18, 19, 20, 21] (by decide +kernel) (by decide +kernel)
set_option maxRecDepth 20000 in
theorem gX4_countMissed_J6_bitCount_0f7a4 : GoodIn wsX4_countMissed (va_wsS RX4 44 yJ6_bitCount_0f7a4 wsJ6_bitCount_0f7a4) := goodIn_app (goodIn_of _ (by decide +kernel)) ggX4_countMissed_J6_bitCount_0f7a4
theorem dX4_countMissed_0 : decode cX4_countMissed 0 = .ok (.iconst 0, 1) := by decide +kernel
theorem dX4_countMissed_1 : decode cX4_countMissed 1 = .ok (.istore_n 2, 1) := by decide +kernel
theorem dX4_countMissed_2 : decode cX4_countMissed 2 = .ok (.iload_n 2, 1) := by decide +kernel
theorem dX4_countMissed_3 : decode cX4_countMissed 3 = .ok (.aload_n 0, 1) := by decide +kernel
theorem dX4_countMissed_4 : decode cX4_countMissed 4 = .ok (.getfield 15, 3) := by decide +kernel
theorem dX4_countMissed_7 : decode cX4_countMissed 7 = .ok (.getfield 19, 3) := by decide +kernel
theorem dX4_countMissed_10 : decode cX4_countMissed 10 = .ok (.if_icmp .ge 32, 3) := by decide +kernel
theorem dX4_countMissed_13 : decode cX4_countMissed 13 = .ok (.aload_n 0, 1) := by decide +kernel
theorem dX4_countMissed_14 : decode cX4_countMissed 14 = .ok (.getfield 9, 3) := by decide +kernel
theorem dX4_countMissed_17 : decode cX4_countMissed 17 = .ok (.iload_n 2, 1) := by decide +kernel
theorem dX4_countMissed_18 : decode cX4_countMissed 18 = .ok (.aload_n 0, 1) := by decide +kernel
theorem dX4_countMissed_19 : decode cX4_countMissed 19 = .ok (.getfield 15, 3) := by decide +kernel
theorem dX4_countMissed_22 : decode cX4_countMissed 22 = .ok (.getfield 25, 3) := by decide +kernel
theorem dX4_countMissed_25 : decode cX4_countMissed 25 = .ok (.iload_n 2, 1) := by decide +kernel
theorem dX4_countMissed_26 : decode cX4_countMissed 26 = .ok (.iaload, 1) := by decide +kernel
theorem dX4_countMissed_27 : decode cX4_countMissed 27 = .ok (.iload_n 1, 1) := by decide +kernel
theorem dX4_countMissed_28 : decode cX4_countMissed 28 = .ok (.invokestatic 28, 3) := by decide +kernel
theorem dX4_countMissed_31 : decode cX4_countMissed 31 = .ok (.iload_n 1, 1) := by decide +kernel
theorem dX4_countMissed_32 : decode cX4_countMissed 32 = .ok (.invokestatic 34, 3) := by decide +kernel
theorem dX4_countMissed_35 : decode cX4_countMissed 35 = .ok (.iastore, 1) := by decide +kernel
theorem dX4_countMissed_36 : decode cX4_countMissed 36 = .ok (.iinc 2 1, 3) := by decide +kernel
theorem dX4_countMissed_39 : decode cX4_countMissed 39 = .ok (.goto (-37), 3) := by decide +kernel
theorem dX4_countMissed_42 : decode cX4_countMissed 42 = .ok (.aload_n 0, 1) := by decide +kernel
theorem dX4_countMissed_43 : decode cX4_countMissed 43 = .ok (.getfield 15, 3) := by decide +kernel
theorem dX4_countMissed_46 : decode cX4_countMissed 46 = .ok (.getfield 37, 3) := by decide +kernel
theorem dX4_countMissed_49 : decode cX4_countMissed 49 = .ok (.iconst 2, 1) := by decide +kernel
theorem dX4_countMissed_50 : decode cX4_countMissed 50 = .ok (.if_icmp .lt 7, 3) := by decide +kernel
theorem dX4_countMissed_53 : decode cX4_countMissed 53 = .ok (.iload_n 1, 1) := by decide +kernel
theorem dX4_countMissed_54 : decode cX4_countMissed 54 = .ok (.goto 4, 3) := by decide +kernel
theorem dX4_countMissed_57 : decode cX4_countMissed 57 = .ok (.iconst 1, 1) := by decide +kernel
theorem dX4_countMissed_58 : decode cX4_countMissed 58 = .ok (.istore_n 2, 1) := by decide +kernel
theorem dX4_countMissed_59 : decode cX4_countMissed 59 = .ok (.aload_n 0, 1) := by decide +kernel
theorem dX4_countMissed_60 : decode cX4_countMissed 60 = .ok (.getfield 15, 3) := by decide +kernel
theorem dX4_countMissed_63 : decode cX4_countMissed 63 = .ok (.getfield 37, 3) := by decide +kernel
theorem dX4_countMissed_66 : decode cX4_countMissed 66 = .ok (.iconst 3, 1) := by decide +kernel
theorem dX4_countMissed_67 : decode cX4_countMissed 67 = .ok (.if_icmp .lt 7, 3) := by decide +kernel
theorem dX4_countMissed_70 : decode cX4_countMissed 70 = .ok (.iload_n 1, 1) := by decide +kernel
theorem dX4_countMissed_71 : decode cX4_countMissed 71 = .ok (.goto 4, 3) := by decide +kernel
theorem dX4_countMissed_74 : decode cX4_countMissed 74 = .ok (.iconst 1, 1) := by decide +kernel
theorem dX4_countMissed_75 : decode cX4_countMissed 75 = .ok (.istore_n 3, 1) := by decide +kernel
theorem dX4_countMissed_76 : decode cX4_countMissed 76 = .ok (.iconst 0, 1) := by decide +kernel
theorem dX4_countMissed_77 : decode cX4_countMissed 77 = .ok (.istore 4, 2) := by decide +kernel
theorem dX4_countMissed_79 : decode cX4_countMissed 79 = .ok (.iconst 0, 1) := by decide +kernel
theorem dX4_countMissed_80 : decode cX4_countMissed 80 = .ok (.istore 5, 2) := by decide +kernel
theorem dX4_countMissed_82 : decode cX4_countMissed 82 = .ok (.iload 5, 2) := by decide +kernel
theorem dX4_countMissed_84 : decode cX4_countMissed 84 = .ok (.iload_n 2, 1) := by decide +kernel
theorem dX4_countMissed_85 : decode cX4_countMissed 85 = .ok (.if_icmp .ge 43, 3) := by decide +kernel
theorem dX4_countMissed_88 : decode cX4_countMissed 88 = .ok (.iconst 0, 1) := by decide +kernel
theorem dX4_countMissed_89 : decode cX4_countMissed 89 = .ok (.istore 6, 2) := by decide +kernel
theorem dX4_countMissed_91 : decode cX4_countMissed 91 = .ok (.iload 6, 2) := by decide +kernel
theorem dX4_countMissed_93 : decode cX4_countMissed 93 = .ok (.iload_n 3, 1) := by decide +kernel
theorem dX4_countMissed_94 : decode cX4_countMissed 94 = .ok (.if_icmp .ge 28, 3) := by decide +kernel
theorem dX4_countMissed_97 : decode cX4_countMissed 97 = .ok (.iload 4, 2) := by decide +kernel
theorem dX4_countMissed_99 : decode cX4_countMissed 99 = .ok (.iload_n 1, 1) := by decide +kernel
theorem dX4_countMissed_100 : decode cX4_countMissed 100 = .ok (.aload_n 0, 1) := by decide +kernel
theorem dX4_countMissed_101 : decode cX4_countMissed 101 = .ok (.iload 5, 2) := by decide +kernel
theorem dX4_countMissed_103 : decode cX4_countMissed 103 = .ok (.iload 6, 2) := by decide +kernel
theorem dX4_countMissed_105 : decode cX4_countMissed 105 = .ok (.iload_n 1, 1) := by decide +kernel
theorem dX4_countMissed_106 : decode cX4_countMissed 106 = .ok (.invokevirtual 40, 3) := by decide +kernel
theorem dX4_countMissed_109 : decode cX4_countMissed 109 = .ok (.invokestatic 44, 3) := by decide +kernel
theorem dX4_countMissed_112 : decode cX4_countMissed 112 = .ok (.isub, 1) := by decide +kernel
theorem dX4_countMissed_113 : decode cX4_countMissed 113 = .ok (.iadd, 1) := by decide +kernel
theorem dX4_countMissed_114 : decode cX4_countMissed 114 = .ok (.istore 4, 2) := by decide +kernel
theorem dX4_countMissed_116 : decode cX4_countMissed 116 = .ok (.iinc 6 1, 3) := by decide +kernel
theorem dX4_countMissed_119 : decode cX4_countMissed 119 = .ok (.goto (-28), 3) := by decide +kernel
theorem dX4_countMissed_122 : decode cX4_countMissed 122 = .ok (.iinc 5 1, 3) := by decide +kernel
theorem dX4_countMissed_125 : decode cX4_countMissed 125 = .ok (.goto (-43), 3) := by decide +kernel
theorem dX4_countMissed_128 : decode cX4_countMissed 128 = .ok (.iload 4, 2) := by decide +kernel
theorem dX4_countMissed_130 : decode cX4_countMissed 130 = .ok (.ireturn, 1) := by decide +kernel
set_option maxRecDepth 20000 in
theorem ggX4_hits_J9_floorMod_7cf53 : GoodIn wsX4_hits wsJ9_floorMod_7cf53 := goodIn_r _ [6] (by decide +kernel) (by decide +kernel)
set_option maxRecDepth 20000 in
theorem gX4_hits_J9_floorMod_7cf53 : GoodIn wsX4_hits (va_wsS RX4 28 yJ9_floorMod_7cf53 wsJ9_floorMod_7cf53) := goodIn_app (goodIn_of _ (by decide +kernel)) ggX4_hits_J9_floorMod_7cf53
theorem dX4_hits_0 : decode cX4_hits 0 = .ok (.iconst 0, 1) := by decide +kernel
theorem dX4_hits_1 : decode cX4_hits 1 = .ok (.istore 4, 2) := by decide +kernel
theorem dX4_hits_3 : decode cX4_hits 3 = .ok (.iconst 0, 1) := by decide +kernel
theorem dX4_hits_4 : decode cX4_hits 4 = .ok (.istore 5, 2) := by decide +kernel
theorem dX4_hits_6 : decode cX4_hits 6 = .ok (.iload 5, 2) := by decide +kernel
theorem dX4_hits_8 : decode cX4_hits 8 = .ok (.aload_n 0, 1) := by decide +kernel
theorem dX4_hits_9 : decode cX4_hits 9 = .ok (.getfield 15, 3) := by decide +kernel
theorem dX4_hits_12 : decode cX4_hits 12 = .ok (.getfield 19, 3) := by decide +kernel
theorem dX4_hits_15 : decode cX4_hits 15 = .ok (.if_icmp .ge 94, 3) := by decide +kernel
theorem dX4_hits_18 : decode cX4_hits 18 = .ok (.aload_n 0, 1) := by decide +kernel
theorem dX4_hits_19 : decode cX4_hits 19 = .ok (.getfield 15, 3) := by decide +kernel
theorem dX4_hits_22 : decode cX4_hits 22 = .ok (.getfield 50, 3) := by decide +kernel
theorem dX4_hits_25 : decode cX4_hits 25 = .ok (.iload 5, 2) := by decide +kernel
theorem dX4_hits_27 : decode cX4_hits 27 = .ok (.iaload, 1) := by decide +kernel
theorem dX4_hits_28 : decode cX4_hits 28 = .ok (.aload_n 0, 1) := by decide +kernel
theorem dX4_hits_29 : decode cX4_hits 29 = .ok (.getfield 15, 3) := by decide +kernel
theorem dX4_hits_32 : decode cX4_hits 32 = .ok (.getfield 53, 3) := by decide +kernel
theorem dX4_hits_35 : decode cX4_hits 35 = .ok (.iload 5, 2) := by decide +kernel
theorem dX4_hits_37 : decode cX4_hits 37 = .ok (.iaload, 1) := by decide +kernel
theorem dX4_hits_38 : decode cX4_hits 38 = .ok (.iload_n 1, 1) := by decide +kernel
theorem dX4_hits_39 : decode cX4_hits 39 = .ok (.imul, 1) := by decide +kernel
theorem dX4_hits_40 : decode cX4_hits 40 = .ok (.isub, 1) := by decide +kernel
theorem dX4_hits_41 : decode cX4_hits 41 = .ok (.aload_n 0, 1) := by decide +kernel
theorem dX4_hits_42 : decode cX4_hits 42 = .ok (.getfield 15, 3) := by decide +kernel
theorem dX4_hits_45 : decode cX4_hits 45 = .ok (.getfield 56, 3) := by decide +kernel
theorem dX4_hits_48 : decode cX4_hits 48 = .ok (.iload 5, 2) := by decide +kernel
theorem dX4_hits_50 : decode cX4_hits 50 = .ok (.iaload, 1) := by decide +kernel
theorem dX4_hits_51 : decode cX4_hits 51 = .ok (.iload_n 2, 1) := by decide +kernel
theorem dX4_hits_52 : decode cX4_hits 52 = .ok (.imul, 1) := by decide +kernel
theorem dX4_hits_53 : decode cX4_hits 53 = .ok (.isub, 1) := by decide +kernel
theorem dX4_hits_54 : decode cX4_hits 54 = .ok (.iload_n 3, 1) := by decide +kernel
theorem dX4_hits_55 : decode cX4_hits 55 = .ok (.invokestatic 28, 3) := by decide +kernel
theorem dX4_hits_58 : decode cX4_hits 58 = .ok (.istore 6, 2) := by decide +kernel
theorem dX4_hits_60 : decode cX4_hits 60 = .ok (.aload_n 0, 1) := by decide +kernel
theorem dX4_hits_61 : decode cX4_hits 61 = .ok (.getfield 9, 3) := by decide +kernel
theorem dX4_hits_64 : decode cX4_hits 64 = .ok (.iload 5, 2) := by decide +kernel
theorem dX4_hits_66 : decode cX4_hits 66 = .ok (.iaload, 1) := by decide +kernel
theorem dX4_hits_67 : decode cX4_hits 67 = .ok (.ifCond .eq 25, 3) := by decide +kernel
theorem dX4_hits_70 : decode cX4_hits 70 = .ok (.iload 4, 2) := by decide +kernel
theorem dX4_hits_72 : decode cX4_hits 72 = .ok (.iconst 1, 1) := by decide +kernel
theorem dX4_hits_73 : decode cX4_hits 73 = .ok (.iload 6, 2) := by decide +kernel
theorem dX4_hits_75 : decode cX4_hits 75 = .ok (.aload_n 0, 1) := by decide +kernel
theorem dX4_hits_76 : decode cX4_hits 76 = .ok (.getfield 9, 3) := by decide +kernel
theorem dX4_hits_79 : decode cX4_hits 79 = .ok (.iload 5, 2) := by decide +kernel
theorem dX4_hits_81 : decode cX4_hits 81 = .ok (.iaload, 1) := by decide +kernel
theorem dX4_hits_82 : decode cX4_hits 82 = .ok (.imul, 1) := by decide +kernel
theorem dX4_hits_83 : decode cX4_hits 83 = .ok (.iload_n 3, 1) := by decide +kernel
theorem dX4_hits_84 : decode cX4_hits 84 = .ok (.irem, 1) := by decide +kernel
theorem dX4_hits_85 : decode cX4_hits 85 = .ok (.ishl, 1) := by decide +kernel
theorem dX4_hits_86 : decode cX4_hits 86 = .ok (.ior, 1) := by decide +kernel
theorem dX4_hits_87 : decode cX4_hits 87 = .ok (.istore 4, 2) := by decide +kernel
theorem dX4_hits_89 : decode cX4_hits 89 = .ok (.goto 14, 3) := by decide +kernel
theorem dX4_hits_92 : decode cX4_hits 92 = .ok (.iload 6, 2) := by decide +kernel
theorem dX4_hits_94 : decode cX4_hits 94 = .ok (.ifCond .ne 9, 3) := by decide +kernel
theorem dX4_hits_97 : decode cX4_hits 97 = .ok (.iconst 1, 1) := by decide +kernel
theorem dX4_hits_98 : decode cX4_hits 98 = .ok (.iload_n 3, 1) := by decide +kernel
theorem dX4_hits_99 : decode cX4_hits 99 = .ok (.ishl, 1) := by decide +kernel
theorem dX4_hits_100 : decode cX4_hits 100 = .ok (.iconst 1, 1) := by decide +kernel
theorem dX4_hits_101 : decode cX4_hits 101 = .ok (.isub, 1) := by decide +kernel
theorem dX4_hits_102 : decode cX4_hits 102 = .ok (.ireturn, 1) := by decide +kernel
theorem dX4_hits_103 : decode cX4_hits 103 = .ok (.iinc 5 1, 3) := by decide +kernel
theorem dX4_hits_106 : decode cX4_hits 106 = .ok (.goto (-100), 3) := by decide +kernel
theorem dX4_hits_109 : decode cX4_hits 109 = .ok (.iload 4, 2) := by decide +kernel
theorem dX4_hits_111 : decode cX4_hits 111 = .ok (.ireturn, 1) := by decide +kernel
theorem dX4_inverse_0 : decode cX4_inverse 0 = .ok (.iconst 1, 1) := by decide +kernel
theorem dX4_inverse_1 : decode cX4_inverse 1 = .ok (.istore_n 2, 1) := by decide +kernel
theorem dX4_inverse_2 : decode cX4_inverse 2 = .ok (.iload_n 2, 1) := by decide +kernel
theorem dX4_inverse_3 : decode cX4_inverse 3 = .ok (.iload_n 1, 1) := by decide +kernel
theorem dX4_inverse_4 : decode cX4_inverse 4 = .ok (.if_icmp .ge 20, 3) := by decide +kernel
theorem dX4_inverse_7 : decode cX4_inverse 7 = .ok (.iload_n 0, 1) := by decide +kernel
theorem dX4_inverse_8 : decode cX4_inverse 8 = .ok (.iload_n 2, 1) := by decide +kernel
theorem dX4_inverse_9 : decode cX4_inverse 9 = .ok (.imul, 1) := by decide +kernel
theorem dX4_inverse_10 : decode cX4_inverse 10 = .ok (.iload_n 1, 1) := by decide +kernel
theorem dX4_inverse_11 : decode cX4_inverse 11 = .ok (.irem, 1) := by decide +kernel
theorem dX4_inverse_12 : decode cX4_inverse 12 = .ok (.iconst 1, 1) := by decide +kernel
theorem dX4_inverse_13 : decode cX4_inverse 13 = .ok (.if_icmp .ne 5, 3) := by decide +kernel
theorem dX4_inverse_16 : decode cX4_inverse 16 = .ok (.iload_n 2, 1) := by decide +kernel
theorem dX4_inverse_17 : decode cX4_inverse 17 = .ok (.ireturn, 1) := by decide +kernel
theorem dX4_inverse_18 : decode cX4_inverse 18 = .ok (.iinc 2 1, 3) := by decide +kernel
theorem dX4_inverse_21 : decode cX4_inverse 21 = .ok (.goto (-19), 3) := by decide +kernel
theorem dX4_inverse_24 : decode cX4_inverse 24 = .ok (.iconst 0, 1) := by decide +kernel
theorem dX4_inverse_25 : decode cX4_inverse 25 = .ok (.ireturn, 1) := by decide +kernel
set_option maxRecDepth 20000 in
theorem ggX5_init_X3_init : GoodIn wsX5_init wsX3_init := goodIn_r _ [30, 31, 2, 3, 32, 33, 34, 35, 36, 37, 38, 39, 82, 83, 84, 85, 86, 87, 88] (by decide +kernel) (by decide +kernel)
set_option maxRecDepth 20000 in
theorem gX5_init_X3_init : GoodIn wsX5_init (wsX3_init) := ggX5_init_X3_init
set_option maxRecDepth 20000 in
theorem ggX5_init_X2_init : GoodIn wsX5_init wsX2_init := goodIn_r _ [42, 43, 2, 3, 32, 44, 45, 46, 47, 48, 49, 50, 51, 52, 53, 54, 55, 56, 57, 94, 95, 96, 97, 98, 99, 100, 116, 117, 118] (by decide +kernel) (by decide +kernel)
set_option maxRecDepth 20000 in
theorem gX5_init_X2_init : GoodIn wsX5_init (wsX2_init) := ggX5_init_X2_init
set_option maxRecDepth 20000 in
theorem ggX5_init_X1_init : GoodIn wsX5_init wsX1_init := goodIn_r _ [60, 61, 2, 3, 32, 62, 63, 64, 65, 66, 67, 68, 51, 52, 69, 70, 71, 72, 73, 74, 75, 55, 56, 57, 101, 102, 103, 104, 105, 106, 107, 108, 109, 110, 111, 112, 113, 116, 117, 118] (by decide +kernel) (by decide +kernel)
set_option maxRecDepth 20000 in
theorem gX5_init_X1_init : GoodIn wsX5_init (wsX1_init) := ggX5_init_X1_init
set_option maxRecDepth 20000 in
theorem ggX5_init_X4_init : GoodIn wsX5_init wsX4_init := goodIn_r _ [78, 79, 2, 3, 32, 80, 81, 114, 115] (by decide +kernel) (by decide +kernel)
set_option maxRecDepth 20000 in
theorem gX5_init_X4_init : GoodIn wsX5_init (wsX4_init) := ggX5_init_X4_init
theorem dX5_init_0 : decode cX5_init 0 = .ok (.aload_n 0, 1) := by decide +kernel
theorem dX5_init_1 : decode cX5_init 1 = .ok (.invokespecial 1, 3) := by decide +kernel
theorem dX5_init_4 : decode cX5_init 4 = .ok (.aload_n 0, 1) := by decide +kernel
theorem dX5_init_5 : decode cX5_init 5 = .ok (.new 7, 3) := by decide +kernel
theorem dX5_init_8 : decode cX5_init 8 = .ok (.dup, 1) := by decide +kernel
theorem dX5_init_9 : decode cX5_init 9 = .ok (.iconst 1, 1) := by decide +kernel
theorem dX5_init_10 : decode cX5_init 10 = .ok (.iconst 3, 1) := by decide +kernel
theorem dX5_init_11 : decode cX5_init 11 = .ok (.iload_n 1, 1) := by decide +kernel
theorem dX5_init_12 : decode cX5_init 12 = .ok (.invokestatic 11, 3) := by decide +kernel
theorem dX5_init_15 : decode cX5_init 15 = .ok (.invokestatic 17, 3) := by decide +kernel
theorem dX5_init_18 : decode cX5_init 18 = .ok (.invokespecial 20, 3) := by decide +kernel
theorem dX5_init_21 : decode cX5_init 21 = .ok (.putfield 23, 3) := by decide +kernel
theorem dX5_init_24 : decode cX5_init 24 = .ok (.aload_n 0, 1) := by decide +kernel
theorem dX5_init_25 : decode cX5_init 25 = .ok (.new 27, 3) := by decide +kernel
theorem dX5_init_28 : decode cX5_init 28 = .ok (.dup, 1) := by decide +kernel
theorem dX5_init_29 : decode cX5_init 29 = .ok (.aload_n 0, 1) := by decide +kernel
theorem dX5_init_30 : decode cX5_init 30 = .ok (.getfield 23, 3) := by decide +kernel
theorem dX5_init_33 : decode cX5_init 33 = .ok (.invokespecial 29, 3) := by decide +kernel
theorem dX5_init_36 : decode cX5_init 36 = .ok (.putfield 32, 3) := by decide +kernel
theorem dX5_init_39 : decode cX5_init 39 = .ok (.aload_n 0, 1) := by decide +kernel
theorem dX5_init_40 : decode cX5_init 40 = .ok (.new 36, 3) := by decide +kernel
theorem dX5_init_43 : decode cX5_init 43 = .ok (.dup, 1) := by decide +kernel
theorem dX5_init_44 : decode cX5_init 44 = .ok (.aload_n 0, 1) := by decide +kernel
theorem dX5_init_45 : decode cX5_init 45 = .ok (.getfield 23, 3) := by decide +kernel
theorem dX5_init_48 : decode cX5_init 48 = .ok (.aload_n 0, 1) := by decide +kernel
theorem dX5_init_49 : decode cX5_init 49 = .ok (.getfield 32, 3) := by decide +kernel
theorem dX5_init_52 : decode cX5_init 52 = .ok (.invokespecial 38, 3) := by decide +kernel
theorem dX5_init_55 : decode cX5_init 55 = .ok (.putfield 41, 3) := by decide +kernel
theorem dX5_init_58 : decode cX5_init 58 = .ok (.aload_n 0, 1) := by decide +kernel
theorem dX5_init_59 : decode cX5_init 59 = .ok (.new 45, 3) := by decide +kernel
theorem dX5_init_62 : decode cX5_init 62 = .ok (.dup, 1) := by decide +kernel
theorem dX5_init_63 : decode cX5_init 63 = .ok (.aload_n 0, 1) := by decide +kernel
theorem dX5_init_64 : decode cX5_init 64 = .ok (.getfield 23, 3) := by decide +kernel
theorem dX5_init_67 : decode cX5_init 67 = .ok (.invokespecial 47, 3) := by decide +kernel
theorem dX5_init_70 : decode cX5_init 70 = .ok (.putfield 48, 3) := by decide +kernel
theorem dX5_init_73 : decode cX5_init 73 = .ok (.aload_n 0, 1) := by decide +kernel
theorem dX5_init_74 : decode cX5_init 74 = .ok (.iconst 0, 1) := by decide +kernel
theorem dX5_init_75 : decode cX5_init 75 = .ok (.putfield 52, 3) := by decide +kernel
theorem dX5_init_78 : decode cX5_init 78 = .ok (.return_, 1) := by decide +kernel
set_option maxRecDepth 20000 in
theorem ggX5_wall_X3_isPlane : GoodIn wsX5_wall wsX3_isPlane := goodIn_r _ [7, 8, 9, 10, 6, 11, 30, 31, 32, 33, 34, 35, 36] (by decide +kernel) (by decide +kernel)
set_option maxRecDepth 20000 in
theorem gX5_wall_X3_isPlane : GoodIn wsX5_wall (wsV RX5 60 RX3 yX3_isPlane wsX3_isPlane) := goodIn_app (goodIn_of _ (by decide +kernel)) ggX5_wall_X3_isPlane
set_option maxRecDepth 20000 in
theorem ggX5_wall_X3_isThere : GoodIn wsX5_wall wsX3_isThere := goodIn_r _ [15, 16, 17, 18, 19, 20, 30, 31, 32, 33, 34, 35, 36] (by decide +kernel) (by decide +kernel)
set_option maxRecDepth 20000 in
theorem gX5_wall_X3_isThere : GoodIn wsX5_wall (wsV RX5 64 RX3 yX3_isThere wsX3_isThere) := goodIn_app (goodIn_of _ (by decide +kernel)) ggX5_wall_X3_isThere
set_option maxRecDepth 20000 in
theorem ggX5_wall_X3_append : GoodIn wsX5_wall wsX3_append := goodIn_r _ [24, 16, 17, 18, 19, 20, 30, 31, 32, 33, 34, 35, 36] (by decide +kernel) (by decide +kernel)
set_option maxRecDepth 20000 in
theorem gX5_wall_X3_append : GoodIn wsX5_wall (wsV RX5 67 RX3 yX3_append wsX3_append) := goodIn_app (goodIn_of _ (by decide +kernel)) ggX5_wall_X3_append
theorem dX5_wall_0 : decode cX5_wall 0 = .ok (.aload_n 0, 1) := by decide +kernel
theorem dX5_wall_1 : decode cX5_wall 1 = .ok (.getfield 23, 3) := by decide +kernel
theorem dX5_wall_4 : decode cX5_wall 4 = .ok (.getfield 56, 3) := by decide +kernel
theorem dX5_wall_7 : decode cX5_wall 7 = .ok (.bipush 8, 2) := by decide +kernel
theorem dX5_wall_9 : decode cX5_wall 9 = .ok (.if_icmp .ge 33, 3) := by decide +kernel
theorem dX5_wall_12 : decode cX5_wall 12 = .ok (.aload_n 0, 1) := by decide +kernel
theorem dX5_wall_13 : decode cX5_wall 13 = .ok (.getfield 23, 3) := by decide +kernel
theorem dX5_wall_16 : decode cX5_wall 16 = .ok (.iload_n 1, 1) := by decide +kernel
theorem dX5_wall_17 : decode cX5_wall 17 = .ok (.iload_n 2, 1) := by decide +kernel
theorem dX5_wall_18 : decode cX5_wall 18 = .ok (.iload_n 3, 1) := by decide +kernel
theorem dX5_wall_19 : decode cX5_wall 19 = .ok (.iload 4, 2) := by decide +kernel
theorem dX5_wall_21 : decode cX5_wall 21 = .ok (.invokevirtual 60, 3) := by decide +kernel
theorem dX5_wall_24 : decode cX5_wall 24 = .ok (.ifCond .eq 18, 3) := by decide +kernel
theorem dX5_wall_27 : decode cX5_wall 27 = .ok (.aload_n 0, 1) := by decide +kernel
theorem dX5_wall_28 : decode cX5_wall 28 = .ok (.getfield 23, 3) := by decide +kernel
theorem dX5_wall_31 : decode cX5_wall 31 = .ok (.iload_n 1, 1) := by decide +kernel
theorem dX5_wall_32 : decode cX5_wall 32 = .ok (.iload_n 2, 1) := by decide +kernel
theorem dX5_wall_33 : decode cX5_wall 33 = .ok (.iload_n 3, 1) := by decide +kernel
theorem dX5_wall_34 : decode cX5_wall 34 = .ok (.iload 4, 2) := by decide +kernel
theorem dX5_wall_36 : decode cX5_wall 36 = .ok (.invokevirtual 64, 3) := by decide +kernel
theorem dX5_wall_39 : decode cX5_wall 39 = .ok (.ifCond .eq 5, 3) := by decide +kernel
theorem dX5_wall_42 : decode cX5_wall 42 = .ok (.iconst (-1), 1) := by decide +kernel
theorem dX5_wall_43 : decode cX5_wall 43 = .ok (.ireturn, 1) := by decide +kernel
theorem dX5_wall_44 : decode cX5_wall 44 = .ok (.aload_n 0, 1) := by decide +kernel
theorem dX5_wall_45 : decode cX5_wall 45 = .ok (.getfield 23, 3) := by decide +kernel
theorem dX5_wall_48 : decode cX5_wall 48 = .ok (.iload_n 1, 1) := by decide +kernel
theorem dX5_wall_49 : decode cX5_wall 49 = .ok (.iload_n 2, 1) := by decide +kernel
theorem dX5_wall_50 : decode cX5_wall 50 = .ok (.iload_n 3, 1) := by decide +kernel
theorem dX5_wall_51 : decode cX5_wall 51 = .ok (.iload 4, 2) := by decide +kernel
theorem dX5_wall_53 : decode cX5_wall 53 = .ok (.invokevirtual 67, 3) := by decide +kernel
theorem dX5_wall_56 : decode cX5_wall 56 = .ok (.aload_n 0, 1) := by decide +kernel
theorem dX5_wall_57 : decode cX5_wall 57 = .ok (.iconst 0, 1) := by decide +kernel
theorem dX5_wall_58 : decode cX5_wall 58 = .ok (.putfield 52, 3) := by decide +kernel
theorem dX5_wall_61 : decode cX5_wall 61 = .ok (.aload_n 0, 1) := by decide +kernel
theorem dX5_wall_62 : decode cX5_wall 62 = .ok (.getfield 23, 3) := by decide +kernel
theorem dX5_wall_65 : decode cX5_wall 65 = .ok (.getfield 56, 3) := by decide +kernel
theorem dX5_wall_68 : decode cX5_wall 68 = .ok (.iconst 1, 1) := by decide +kernel
theorem dX5_wall_69 : decode cX5_wall 69 = .ok (.isub, 1) := by decide +kernel
theorem dX5_wall_70 : decode cX5_wall 70 = .ok (.ireturn, 1) := by decide +kernel
set_option maxRecDepth 20000 in
theorem ggX5_take_X3_holds : GoodIn wsX5_take wsX3_holds := goodIn_r _ [7, 8, 23, 24, 25, 26, 27, 28, 29] (by decide +kernel) (by decide +kernel)
set_option maxRecDepth 20000 in
theorem gX5_take_X3_holds : GoodIn wsX5_take (wsV RX5 71 RX3 yX3_holds wsX3_holds) := goodIn_app (goodIn_of _ (by decide +kernel)) ggX5_take_X3_holds
set_option maxRecDepth 20000 in
theorem ggX5_take_X3_drop : GoodIn wsX5_take wsX3_drop := goodIn_r _ [12, 8, 13, 14, 15, 16, 17, 4, 5, 6, 7, 23, 24, 25, 26, 27, 28, 29] (by decide +kernel) (by decide +kernel)
set_option maxRecDepth 20000 in
theorem gX5_take_X3_drop : GoodIn wsX5_take (wsV RX5 75 RX3 yX3_drop wsX3_drop) := goodIn_app (goodIn_of _ (by decide +kernel)) ggX5_take_X3_drop
theorem dX5_take_0 : decode cX5_take 0 = .ok (.aload_n 0, 1) := by decide +kernel
theorem dX5_take_1 : decode cX5_take 1 = .ok (.getfield 23, 3) := by decide +kernel
theorem dX5_take_4 : decode cX5_take 4 = .ok (.iload_n 1, 1) := by decide +kernel
theorem dX5_take_5 : decode cX5_take 5 = .ok (.invokevirtual 71, 3) := by decide +kernel
theorem dX5_take_8 : decode cX5_take 8 = .ok (.ifCond .ne 5, 3) := by decide +kernel
theorem dX5_take_11 : decode cX5_take 11 = .ok (.iconst 0, 1) := by decide +kernel
theorem dX5_take_12 : decode cX5_take 12 = .ok (.ireturn, 1) := by decide +kernel
theorem dX5_take_13 : decode cX5_take 13 = .ok (.aload_n 0, 1) := by decide +kernel
theorem dX5_take_14 : decode cX5_take 14 = .ok (.getfield 23, 3) := by decide +kernel
theorem dX5_take_17 : decode cX5_take 17 = .ok (.iload_n 1, 1) := by decide +kernel
theorem dX5_take_18 : decode cX5_take 18 = .ok (.invokevirtual 75, 3) := by decide +kernel
end
section
theorem dX5_take_21 : decode cX5_take 21 = .ok (.aload_n 0, 1) := by decide +kernel
theorem dX5_take_22 : decode cX5_take 22 = .ok (.iconst 0, 1) := by decide +kernel
theorem dX5_take_23 : decode cX5_take 23 = .ok (.putfield 52, 3) := by decide +kernel
theorem dX5_take_26 : decode cX5_take 26 = .ok (.iconst 1, 1) := by decide +kernel
theorem dX5_take_27 : decode cX5_take 27 = .ok (.ireturn, 1) := by decide +kernel
set_option maxRecDepth 20000 in
theorem ggX5_told_X3_holds : GoodIn wsX5_told wsX3_holds := goodIn_r _ [6, 7, 13, 14, 15, 16, 17, 18, 19] (by decide +kernel) (by decide +kernel)
set_option maxRecDepth 20000 in
theorem gX5_told_X3_holds : GoodIn wsX5_told (wsV RX5 71 RX3 yX3_holds wsX3_holds) := goodIn_app (goodIn_of _ (by decide +kernel)) ggX5_told_X3_holds
theorem dX5_told_0 : decode cX5_told 0 = .ok (.aload_n 0, 1) := by decide +kernel
theorem dX5_told_1 : decode cX5_told 1 = .ok (.getfield 23, 3) := by decide +kernel
theorem dX5_told_4 : decode cX5_told 4 = .ok (.iload_n 1, 1) := by decide +kernel
theorem dX5_told_5 : decode cX5_told 5 = .ok (.invokevirtual 71, 3) := by decide +kernel
theorem dX5_told_8 : decode cX5_told 8 = .ok (.ifCond .ne 5, 3) := by decide +kernel
theorem dX5_told_11 : decode cX5_told 11 = .ok (.iconst (-1), 1) := by decide +kernel
theorem dX5_told_12 : decode cX5_told 12 = .ok (.ireturn, 1) := by decide +kernel
theorem dX5_told_13 : decode cX5_told 13 = .ok (.iload_n 2, 1) := by decide +kernel
theorem dX5_told_14 : decode cX5_told 14 = .ok (.tableswitch 70 0 3 #[30, 40, 50, 60], 30) := by decide +kernel
theorem dX5_told_44 : decode cX5_told 44 = .ok (.aload_n 0, 1) := by decide +kernel
theorem dX5_told_45 : decode cX5_told 45 = .ok (.getfield 23, 3) := by decide +kernel
theorem dX5_told_48 : decode cX5_told 48 = .ok (.getfield 78, 3) := by decide +kernel
theorem dX5_told_51 : decode cX5_told 51 = .ok (.iload_n 1, 1) := by decide +kernel
theorem dX5_told_52 : decode cX5_told 52 = .ok (.iaload, 1) := by decide +kernel
theorem dX5_told_53 : decode cX5_told 53 = .ok (.ireturn, 1) := by decide +kernel
theorem dX5_told_54 : decode cX5_told 54 = .ok (.aload_n 0, 1) := by decide +kernel
theorem dX5_told_55 : decode cX5_told 55 = .ok (.getfield 23, 3) := by decide +kernel
theorem dX5_told_58 : decode cX5_told 58 = .ok (.getfield 82, 3) := by decide +kernel
theorem dX5_told_61 : decode cX5_told 61 = .ok (.iload_n 1, 1) := by decide +kernel
theorem dX5_told_62 : decode cX5_told 62 = .ok (.iaload, 1) := by decide +kernel
theorem dX5_told_63 : decode cX5_told 63 = .ok (.ireturn, 1) := by decide +kernel
theorem dX5_told_64 : decode cX5_told 64 = .ok (.aload_n 0, 1) := by decide +kernel
theorem dX5_told_65 : decode cX5_told 65 = .ok (.getfield 23, 3) := by decide +kernel
theorem dX5_told_68 : decode cX5_told 68 = .ok (.getfield 85, 3) := by decide +kernel
theorem dX5_told_71 : decode cX5_told 71 = .ok (.iload_n 1, 1) := by decide +kernel
theorem dX5_told_72 : decode cX5_told 72 = .ok (.iaload, 1) := by decide +kernel
theorem dX5_told_73 : decode cX5_told 73 = .ok (.ireturn, 1) := by decide +kernel
theorem dX5_told_74 : decode cX5_told 74 = .ok (.aload_n 0, 1) := by decide +kernel
theorem dX5_told_75 : decode cX5_told 75 = .ok (.getfield 23, 3) := by decide +kernel
theorem dX5_told_78 : decode cX5_told 78 = .ok (.getfield 88, 3) := by decide +kernel
theorem dX5_told_81 : decode cX5_told 81 = .ok (.iload_n 1, 1) := by decide +kernel
theorem dX5_told_82 : decode cX5_told 82 = .ok (.iaload, 1) := by decide +kernel
theorem dX5_told_83 : decode cX5_told 83 = .ok (.ireturn, 1) := by decide +kernel
theorem dX5_told_84 : decode cX5_told 84 = .ok (.iconst (-1), 1) := by decide +kernel
theorem dX5_told_85 : decode cX5_told 85 = .ok (.ireturn, 1) := by decide +kernel
set_option maxRecDepth 20000 in
theorem ggX5_row_X5_isTooFar : GoodIn wsX5_row wsX5_isTooFar := goodIn_r _ [5, 6, 7] (by decide +kernel) (by decide +kernel)
set_option maxRecDepth 20000 in
theorem gX5_row_X5_isTooFar : GoodIn wsX5_row (va_wsS RX5 94 yX5_isTooFar wsX5_isTooFar) := goodIn_app (goodIn_of _ (by decide +kernel)) ggX5_row_X5_isTooFar
set_option maxRecDepth 20000 in
theorem ggX5_row_X3_signs : GoodIn wsX5_row wsX3_signs := goodIn_r _ [12, 13, 14, 15, 16, 17, 32, 33, 34, 35, 36, 37, 38] (by decide +kernel) (by decide +kernel)
set_option maxRecDepth 20000 in
theorem gX5_row_X3_signs : GoodIn wsX5_row (wsV RX5 97 RX3 yX3_signs wsX3_signs) := goodIn_app (goodIn_of _ (by decide +kernel)) ggX5_row_X3_signs
set_option maxRecDepth 20000 in
theorem ggX5_row_X3_rowOf : GoodIn wsX5_row wsX3_rowOf := goodIn_r _ [21, 22, 23, 4, 24, 25, 26, 32, 33, 34, 35, 36, 37, 38] (by decide +kernel) (by decide +kernel)
set_option maxRecDepth 20000 in
theorem gX5_row_X3_rowOf : GoodIn wsX5_row (wsV RX5 101 RX3 yX3_rowOf wsX3_rowOf) := goodIn_app (goodIn_of _ (by decide +kernel)) ggX5_row_X3_rowOf
theorem dX5_row_0 : decode cX5_row 0 = .ok (.aload_n 0, 1) := by decide +kernel
theorem dX5_row_1 : decode cX5_row 1 = .ok (.getfield 23, 3) := by decide +kernel
theorem dX5_row_4 : decode cX5_row 4 = .ok (.getfield 91, 3) := by decide +kernel
theorem dX5_row_7 : decode cX5_row 7 = .ok (.iconst 2, 1) := by decide +kernel
theorem dX5_row_8 : decode cX5_row 8 = .ok (.if_icmp .lt 7, 3) := by decide +kernel
theorem dX5_row_11 : decode cX5_row 11 = .ok (.iload_n 2, 1) := by decide +kernel
theorem dX5_row_12 : decode cX5_row 12 = .ok (.goto 4, 3) := by decide +kernel
theorem dX5_row_15 : decode cX5_row 15 = .ok (.iconst 0, 1) := by decide +kernel
theorem dX5_row_16 : decode cX5_row 16 = .ok (.istore 4, 2) := by decide +kernel
theorem dX5_row_18 : decode cX5_row 18 = .ok (.aload_n 0, 1) := by decide +kernel
theorem dX5_row_19 : decode cX5_row 19 = .ok (.getfield 23, 3) := by decide +kernel
theorem dX5_row_22 : decode cX5_row 22 = .ok (.getfield 91, 3) := by decide +kernel
theorem dX5_row_25 : decode cX5_row 25 = .ok (.iconst 3, 1) := by decide +kernel
theorem dX5_row_26 : decode cX5_row 26 = .ok (.if_icmp .lt 7, 3) := by decide +kernel
theorem dX5_row_29 : decode cX5_row 29 = .ok (.iload_n 3, 1) := by decide +kernel
theorem dX5_row_30 : decode cX5_row 30 = .ok (.goto 4, 3) := by decide +kernel
theorem dX5_row_33 : decode cX5_row 33 = .ok (.iconst 0, 1) := by decide +kernel
theorem dX5_row_34 : decode cX5_row 34 = .ok (.istore 5, 2) := by decide +kernel
theorem dX5_row_36 : decode cX5_row 36 = .ok (.iload_n 1, 1) := by decide +kernel
theorem dX5_row_37 : decode cX5_row 37 = .ok (.invokestatic 94, 3) := by decide +kernel
theorem dX5_row_40 : decode cX5_row 40 = .ok (.ifCond .ne 19, 3) := by decide +kernel
theorem dX5_row_43 : decode cX5_row 43 = .ok (.iload 4, 2) := by decide +kernel
theorem dX5_row_45 : decode cX5_row 45 = .ok (.invokestatic 94, 3) := by decide +kernel
theorem dX5_row_48 : decode cX5_row 48 = .ok (.ifCond .ne 11, 3) := by decide +kernel
theorem dX5_row_51 : decode cX5_row 51 = .ok (.iload 5, 2) := by decide +kernel
theorem dX5_row_53 : decode cX5_row 53 = .ok (.invokestatic 94, 3) := by decide +kernel
theorem dX5_row_56 : decode cX5_row 56 = .ok (.ifCond .eq 5, 3) := by decide +kernel
theorem dX5_row_59 : decode cX5_row 59 = .ok (.iconst (-1), 1) := by decide +kernel
theorem dX5_row_60 : decode cX5_row 60 = .ok (.ireturn, 1) := by decide +kernel
theorem dX5_row_61 : decode cX5_row 61 = .ok (.aload_n 0, 1) := by decide +kernel
theorem dX5_row_62 : decode cX5_row 62 = .ok (.getfield 23, 3) := by decide +kernel
theorem dX5_row_65 : decode cX5_row 65 = .ok (.aload_n 0, 1) := by decide +kernel
theorem dX5_row_66 : decode cX5_row 66 = .ok (.getfield 23, 3) := by decide +kernel
theorem dX5_row_69 : decode cX5_row 69 = .ok (.iload_n 1, 1) := by decide +kernel
theorem dX5_row_70 : decode cX5_row 70 = .ok (.iload 4, 2) := by decide +kernel
theorem dX5_row_72 : decode cX5_row 72 = .ok (.iload 5, 2) := by decide +kernel
theorem dX5_row_74 : decode cX5_row 74 = .ok (.iconst 1, 1) := by decide +kernel
theorem dX5_row_75 : decode cX5_row 75 = .ok (.invokevirtual 97, 3) := by decide +kernel
theorem dX5_row_78 : decode cX5_row 78 = .ok (.invokevirtual 101, 3) := by decide +kernel
theorem dX5_row_81 : decode cX5_row 81 = .ok (.ireturn, 1) := by decide +kernel
set_option maxRecDepth 20000 in
theorem ggX5_faces_X5_freshCut : GoodIn wsX5_faces wsX5_freshCut := goodIn_r _ [6, 7, 8, 9, 10, 11, 12, 13, 14, 15, 16, 17, 18, 19, 20, 21, 22, 23, 24, 25, 26, 27, 28, 29, 30, 31, 32, 33, 34, 35, 36, 37, 38, 39, 40, 41, 42, 43, 44, 45, 46, 47, 48, 49, 50, 51, 52, 53, 54, 55, 56, 57, 58, 59, 60, 61, 62, 63, 64, 65, 66, 67, 68, 69, 70, 71, 72, 73, 74, 75, 76, 77, 78, 79, 80, 81, 82, 83, 84, 85, 86, 87, 88, 89, 90, 91, 92, 93, 94, 95, 96, 97, 98, 99, 100, 101, 102, 103, 104, 5, 105, 106, 107, 108, 109, 110, 111, 112, 113, 114, 115, 116, 117, 118, 119, 120, 121, 122, 123, 124, 125, 126, 127, 128, 129, 130, 131, 132, 133, 134, 135, 136, 137, 138, 139, 140, 141, 142, 143, 148, 149, 150, 151, 152, 160, 161, 162, 163, 164, 165, 166, 167, 168, 169, 170, 171, 172, 173, 174, 175, 176, 177, 178, 179, 153, 154, 155, 156, 157, 158, 159, 180, 181, 182] (by decide +kernel) (by decide +kernel)
set_option maxRecDepth 20000 in
theorem gX5_faces_X5_freshCut : GoodIn wsX5_faces (wsV RX5 105 RX5 yX5_freshCut wsX5_freshCut) := goodIn_app (goodIn_of _ (by decide +kernel)) ggX5_faces_X5_freshCut
set_option maxRecDepth 20000 in
theorem ggX5_faces_X1_countOfWidth : GoodIn wsX5_faces wsX1_countOfWidth := goodIn_r _ [147, 15, 137, 160, 161, 162, 163, 164, 165, 166, 167, 168, 169, 170, 171, 172] (by decide +kernel) (by decide +kernel)
set_option maxRecDepth 20000 in
theorem gX5_faces_X1_countOfWidth : GoodIn wsX5_faces (wsV RX5 109 RX1 yX1_countOfWidth wsX1_countOfWidth) := goodIn_app (goodIn_of _ (by decide +kernel)) ggX5_faces_X1_countOfWidth
theorem dX5_faces_0 : decode cX5_faces 0 = .ok (.iload_n 1, 1) := by decide +kernel
theorem dX5_faces_1 : decode cX5_faces 1 = .ok (.ifCond .lt 14, 3) := by decide +kernel
theorem dX5_faces_4 : decode cX5_faces 4 = .ok (.iload_n 1, 1) := by decide +kernel
theorem dX5_faces_5 : decode cX5_faces 5 = .ok (.aload_n 0, 1) := by decide +kernel
theorem dX5_faces_6 : decode cX5_faces 6 = .ok (.getfield 23, 3) := by decide +kernel
theorem dX5_faces_9 : decode cX5_faces 9 = .ok (.getfield 91, 3) := by decide +kernel
theorem dX5_faces_12 : decode cX5_faces 12 = .ok (.if_icmp .le 5, 3) := by decide +kernel
theorem dX5_faces_15 : decode cX5_faces 15 = .ok (.iconst (-1), 1) := by decide +kernel
theorem dX5_faces_16 : decode cX5_faces 16 = .ok (.ireturn, 1) := by decide +kernel
theorem dX5_faces_17 : decode cX5_faces 17 = .ok (.aload_n 0, 1) := by decide +kernel
theorem dX5_faces_18 : decode cX5_faces 18 = .ok (.invokevirtual 105, 3) := by decide +kernel
theorem dX5_faces_21 : decode cX5_faces 21 = .ok (.iload_n 1, 1) := by decide +kernel
theorem dX5_faces_22 : decode cX5_faces 22 = .ok (.invokevirtual 109, 3) := by decide +kernel
theorem dX5_faces_25 : decode cX5_faces 25 = .ok (.ireturn, 1) := by decide +kernel
set_option maxRecDepth 20000 in
theorem ggX5_face_X5_freshCut : GoodIn wsX5_face wsX5_freshCut := goodIn_r _ [5, 6, 7, 8, 9, 10, 11, 12, 13, 14, 15, 16, 17, 18, 19, 20, 21, 22, 23, 24, 25, 26, 27, 28, 29, 30, 31, 32, 33, 34, 35, 36, 37, 38, 39, 40, 41, 42, 43, 44, 45, 46, 47, 48, 49, 50, 51, 52, 53, 54, 55, 56, 57, 58, 59, 60, 61, 62, 63, 64, 65, 66, 67, 68, 69, 70, 71, 72, 73, 74, 75, 76, 77, 78, 79, 80, 81, 82, 83, 84, 85, 86, 87, 88, 89, 90, 91, 92, 93, 94, 95, 96, 97, 98, 99, 100, 101, 102, 103, 4, 104, 105, 106, 107, 108, 109, 110, 111, 112, 113, 114, 115, 116, 117, 118, 119, 120, 121, 122, 123, 124, 125, 126, 127, 128, 129, 130, 131, 132, 133, 134, 135, 136, 137, 138, 139, 140, 141, 142, 147, 148, 149, 150, 151, 152, 153, 154, 155, 156, 157, 158, 159, 160, 161, 162, 163, 164, 165, 166, 167, 168, 169, 170, 171, 172, 173, 174, 175, 176, 177, 178, 179, 180, 181] (by decide +kernel) (by decide +kernel)
set_option maxRecDepth 20000 in
theorem gX5_face_X5_freshCut : GoodIn wsX5_face (wsV RX5 105 RX5 yX5_freshCut wsX5_freshCut) := goodIn_app (goodIn_of _ (by decide +kernel)) ggX5_face_X5_freshCut
set_option maxRecDepth 20000 in
theorem ggX5_face_X1_rowOfWidth : GoodIn wsX5_face wsX1_rowOfWidth := goodIn_r _ [146, 14, 136, 135, 152, 153, 154, 155, 156, 157, 158, 159, 160, 161, 162, 163, 164] (by decide +kernel) (by decide +kernel)
set_option maxRecDepth 20000 in
theorem gX5_face_X1_rowOfWidth : GoodIn wsX5_face (wsV RX5 112 RX1 yX1_rowOfWidth wsX1_rowOfWidth) := goodIn_app (goodIn_of _ (by decide +kernel)) ggX5_face_X1_rowOfWidth
theorem dX5_face_0 : decode cX5_face 0 = .ok (.aload_n 0, 1) := by decide +kernel
theorem dX5_face_1 : decode cX5_face 1 = .ok (.invokevirtual 105, 3) := by decide +kernel
theorem dX5_face_4 : decode cX5_face 4 = .ok (.iload_n 1, 1) := by decide +kernel
theorem dX5_face_5 : decode cX5_face 5 = .ok (.iload_n 2, 1) := by decide +kernel
theorem dX5_face_6 : decode cX5_face 6 = .ok (.invokevirtual 112, 3) := by decide +kernel
theorem dX5_face_9 : decode cX5_face 9 = .ok (.ireturn, 1) := by decide +kernel
set_option maxRecDepth 20000 in
theorem ggX5_width_X5_freshCut : GoodIn wsX5_width wsX5_freshCut := goodIn_r _ [7, 8, 9, 10, 11, 12, 13, 14, 15, 16, 17, 18, 19, 20, 21, 22, 23, 24, 25, 26, 27, 28, 29, 30, 31, 32, 33, 34, 35, 36, 37, 38, 39, 40, 41, 42, 43, 44, 45, 46, 47, 48, 49, 50, 51, 52, 53, 54, 55, 56, 57, 58, 59, 60, 61, 62, 63, 64, 65, 66, 67, 68, 69, 70, 71, 72, 73, 74, 75, 76, 77, 78, 79, 80, 81, 82, 83, 84, 85, 86, 87, 88, 89, 90, 91, 92, 93, 94, 95, 96, 97, 98, 99, 100, 101, 102, 103, 104, 105, 6, 106, 107, 108, 109, 110, 111, 112, 113, 114, 115, 116, 117, 118, 119, 120, 121, 122, 123, 124, 125, 126, 127, 128, 129, 130, 131, 132, 133, 134, 135, 136, 137, 138, 139, 140, 141, 142, 143, 144, 150, 151, 152, 153, 154, 169, 170, 171, 172, 173, 174, 175, 176, 177, 178, 179, 180, 181, 162, 163, 164, 165, 166, 167, 168, 155, 156, 157, 158, 159, 160, 161, 182, 183, 184] (by decide +kernel) (by decide +kernel)
set_option maxRecDepth 20000 in
theorem gX5_width_X5_freshCut : GoodIn wsX5_width (wsV RX5 105 RX5 yX5_freshCut wsX5_freshCut) := goodIn_app (goodIn_of _ (by decide +kernel)) ggX5_width_X5_freshCut
set_option maxRecDepth 20000 in
theorem ggX5_width_X1_hasFace : GoodIn wsX5_width wsX1_hasFace := goodIn_r _ [148, 125, 126, 127, 13, 128, 15, 169, 170, 171, 172, 173, 174, 175, 176, 177, 178, 179, 180, 181] (by decide +kernel) (by decide +kernel)
set_option maxRecDepth 20000 in
theorem gX5_width_X1_hasFace : GoodIn wsX5_width (wsV RX5 115 RX1 yX1_hasFace wsX1_hasFace) := goodIn_app (goodIn_of _ (by decide +kernel)) ggX5_width_X1_hasFace
set_option maxRecDepth 20000 in
theorem ggX5_width_X5_maskOf : GoodIn wsX5_width wsX5_maskOf := goodIn_r _ [140] (by decide +kernel) (by decide +kernel)
set_option maxRecDepth 20000 in
theorem gX5_width_X5_maskOf : GoodIn wsX5_width (va_wsS RX5 121 yX5_maskOf wsX5_maskOf) := goodIn_app (goodIn_of _ (by decide +kernel)) ggX5_width_X5_maskOf
theorem dX5_width_0 : decode cX5_width 0 = .ok (.aload_n 0, 1) := by decide +kernel
theorem dX5_width_1 : decode cX5_width 1 = .ok (.invokevirtual 105, 3) := by decide +kernel
theorem dX5_width_4 : decode cX5_width 4 = .ok (.astore_n 2, 1) := by decide +kernel
theorem dX5_width_5 : decode cX5_width 5 = .ok (.aload_n 2, 1) := by decide +kernel
theorem dX5_width_6 : decode cX5_width 6 = .ok (.iload_n 1, 1) := by decide +kernel
theorem dX5_width_7 : decode cX5_width 7 = .ok (.invokevirtual 115, 3) := by decide +kernel
theorem dX5_width_10 : decode cX5_width 10 = .ok (.ifCond .eq 27, 3) := by decide +kernel
theorem dX5_width_13 : decode cX5_width 13 = .ok (.aload_n 0, 1) := by decide +kernel
theorem dX5_width_14 : decode cX5_width 14 = .ok (.getfield 23, 3) := by decide +kernel
theorem dX5_width_17 : decode cX5_width 17 = .ok (.getfield 91, 3) := by decide +kernel
theorem dX5_width_20 : decode cX5_width 20 = .ok (.aload_n 0, 1) := by decide +kernel
theorem dX5_width_21 : decode cX5_width 21 = .ok (.getfield 32, 3) := by decide +kernel
theorem dX5_width_24 : decode cX5_width 24 = .ok (.getfield 118, 3) := by decide +kernel
theorem dX5_width_27 : decode cX5_width 27 = .ok (.iload_n 1, 1) := by decide +kernel
theorem dX5_width_28 : decode cX5_width 28 = .ok (.iconst 1, 1) := by decide +kernel
theorem dX5_width_29 : decode cX5_width 29 = .ok (.invokestatic 121, 3) := by decide +kernel
theorem dX5_width_32 : decode cX5_width 32 = .ok (.iaload, 1) := by decide +kernel
theorem dX5_width_33 : decode cX5_width 33 = .ok (.isub, 1) := by decide +kernel
theorem dX5_width_34 : decode cX5_width 34 = .ok (.goto 4, 3) := by decide +kernel
theorem dX5_width_37 : decode cX5_width 37 = .ok (.iconst (-1), 1) := by decide +kernel
theorem dX5_width_38 : decode cX5_width 38 = .ok (.ireturn, 1) := by decide +kernel
set_option maxRecDepth 20000 in
theorem ggX5_bounded_X5_freshCut : GoodIn wsX5_bounded wsX5_freshCut := goodIn_r _ [7, 8, 9, 10, 11, 12, 13, 14, 15, 16, 17, 18, 19, 20, 21, 22, 23, 24, 25, 26, 27, 28, 29, 30, 31, 32, 33, 34, 35, 36, 37, 38, 39, 40, 41, 42, 43, 44, 45, 46, 47, 48, 49, 50, 51, 52, 53, 54, 55, 56, 57, 58, 59, 60, 61, 62, 63, 64, 65, 66, 67, 68, 69, 70, 71, 72, 73, 74, 75, 76, 77, 78, 79, 80, 81, 82, 83, 84, 85, 86, 87, 88, 89, 90, 91, 92, 93, 94, 95, 96, 97, 98, 99, 100, 101, 102, 103, 104, 105, 6, 106, 107, 108, 109, 110, 111, 112, 113, 114, 115, 116, 117, 118, 119, 120, 121, 122, 123, 124, 125, 126, 127, 128, 129, 130, 131, 132, 133, 134, 135, 136, 137, 138, 139, 140, 141, 142, 143, 144, 159, 160, 161, 162, 163, 171, 172, 173, 174, 175, 176, 177, 178, 179, 180, 181, 182, 183, 184, 185, 186, 187, 188, 189, 190, 164, 165, 166, 167, 168, 169, 170, 191, 192, 193] (by decide +kernel) (by decide +kernel)
set_option maxRecDepth 20000 in
theorem gX5_bounded_X5_freshCut : GoodIn wsX5_bounded (wsV RX5 105 RX5 yX5_freshCut wsX5_freshCut) := goodIn_app (goodIn_of _ (by decide +kernel)) ggX5_bounded_X5_freshCut
set_option maxRecDepth 20000 in
theorem ggX5_bounded_X1_hasRoom : GoodIn wsX5_bounded wsX1_hasRoom := goodIn_r _ [148, 149, 150, 151, 13, 152, 125, 126, 127, 128, 15, 139, 6, 140, 171, 172, 173, 174, 175, 176, 177, 178, 179, 180, 181, 182, 183] (by decide +kernel) (by decide +kernel)
set_option maxRecDepth 20000 in
theorem gX5_bounded_X1_hasRoom : GoodIn wsX5_bounded (wsV RX5 124 RX1 yX1_hasRoom wsX1_hasRoom) := goodIn_app (goodIn_of _ (by decide +kernel)) ggX5_bounded_X1_hasRoom
set_option maxRecDepth 20000 in
theorem ggX5_bounded_X2_rankOfAll : GoodIn wsX5_bounded wsX2_rankOfAll := goodIn_r _ [74, 39, 34, 184, 185, 186, 187, 188, 189, 190, 164, 165, 166, 167, 168, 169, 170] (by decide +kernel) (by decide +kernel)
set_option maxRecDepth 20000 in
theorem gX5_bounded_X2_rankOfAll : GoodIn wsX5_bounded (wsV RX5 127 RX2 yX2_rankOfAll wsX2_rankOfAll) := goodIn_app (goodIn_of _ (by decide +kernel)) ggX5_bounded_X2_rankOfAll
set_option maxRecDepth 20000 in
theorem ggX5_bounded_X5_maskOf : GoodIn wsX5_bounded wsX5_maskOf := goodIn_r _ [140] (by decide +kernel) (by decide +kernel)
set_option maxRecDepth 20000 in
theorem gX5_bounded_X5_maskOf : GoodIn wsX5_bounded (va_wsS RX5 121 yX5_maskOf wsX5_maskOf) := goodIn_app (goodIn_of _ (by decide +kernel)) ggX5_bounded_X5_maskOf
set_option maxRecDepth 20000 in
theorem ggX5_bounded_X1_isOpen : GoodIn wsX5_bounded wsX1_isOpen := goodIn_r _ [158, 17, 95, 96, 171, 172, 173, 174, 175, 176, 177, 178, 179, 180, 181, 182, 183] (by decide +kernel) (by decide +kernel)
set_option maxRecDepth 20000 in
theorem gX5_bounded_X1_isOpen : GoodIn wsX5_bounded (wsV RX5 131 RX1 yX1_isOpen wsX1_isOpen) := goodIn_app (goodIn_of _ (by decide +kernel)) ggX5_bounded_X1_isOpen
theorem dX5_bounded_0 : decode cX5_bounded 0 = .ok (.aload_n 0, 1) := by decide +kernel
theorem dX5_bounded_1 : decode cX5_bounded 1 = .ok (.invokevirtual 105, 3) := by decide +kernel
theorem dX5_bounded_4 : decode cX5_bounded 4 = .ok (.astore_n 2, 1) := by decide +kernel
theorem dX5_bounded_5 : decode cX5_bounded 5 = .ok (.aload_n 2, 1) := by decide +kernel
theorem dX5_bounded_6 : decode cX5_bounded 6 = .ok (.iload_n 1, 1) := by decide +kernel
theorem dX5_bounded_7 : decode cX5_bounded 7 = .ok (.invokevirtual 124, 3) := by decide +kernel
theorem dX5_bounded_10 : decode cX5_bounded 10 = .ok (.ifCond .eq 36, 3) := by decide +kernel
theorem dX5_bounded_13 : decode cX5_bounded 13 = .ok (.aload_n 0, 1) := by decide +kernel
theorem dX5_bounded_14 : decode cX5_bounded 14 = .ok (.getfield 32, 3) := by decide +kernel
theorem dX5_bounded_17 : decode cX5_bounded 17 = .ok (.invokevirtual 127, 3) := by decide +kernel
theorem dX5_bounded_20 : decode cX5_bounded 20 = .ok (.aload_n 0, 1) := by decide +kernel
theorem dX5_bounded_21 : decode cX5_bounded 21 = .ok (.getfield 23, 3) := by decide +kernel
theorem dX5_bounded_24 : decode cX5_bounded 24 = .ok (.getfield 91, 3) := by decide +kernel
theorem dX5_bounded_27 : decode cX5_bounded 27 = .ok (.if_icmp .ne 19, 3) := by decide +kernel
theorem dX5_bounded_30 : decode cX5_bounded 30 = .ok (.aload_n 2, 1) := by decide +kernel
theorem dX5_bounded_31 : decode cX5_bounded 31 = .ok (.iload_n 1, 1) := by decide +kernel
theorem dX5_bounded_32 : decode cX5_bounded 32 = .ok (.iconst 2, 1) := by decide +kernel
theorem dX5_bounded_33 : decode cX5_bounded 33 = .ok (.invokestatic 121, 3) := by decide +kernel
theorem dX5_bounded_36 : decode cX5_bounded 36 = .ok (.invokevirtual 131, 3) := by decide +kernel
theorem dX5_bounded_39 : decode cX5_bounded 39 = .ok (.ifCond .ne 7, 3) := by decide +kernel
theorem dX5_bounded_42 : decode cX5_bounded 42 = .ok (.iconst 1, 1) := by decide +kernel
theorem dX5_bounded_43 : decode cX5_bounded 43 = .ok (.goto 4, 3) := by decide +kernel
theorem dX5_bounded_46 : decode cX5_bounded 46 = .ok (.iconst 0, 1) := by decide +kernel
theorem dX5_bounded_47 : decode cX5_bounded 47 = .ok (.ireturn, 1) := by decide +kernel
set_option maxRecDepth 20000 in
theorem ggX5_boundedRooms_X5_freshCut : GoodIn wsX5_boundedRooms wsX5_freshCut := goodIn_r _ [11, 12, 13, 14, 15, 16, 17, 18, 19, 20, 21, 22, 23, 24, 25, 26, 27, 28, 29, 30, 31, 32, 33, 34, 35, 36, 37, 38, 39, 40, 41, 42, 43, 44, 45, 46, 47, 48, 49, 50, 51, 52, 53, 54, 55, 56, 57, 58, 59, 60, 61, 62, 63, 64, 65, 66, 67, 68, 69, 70, 71, 72, 73, 74, 75, 76, 77, 78, 79, 80, 81, 82, 83, 84, 85, 86, 5, 87, 88, 89, 90, 91, 92, 93, 94, 95, 96, 97, 98, 99, 100, 101, 102, 103, 104, 105, 106, 107, 108, 10, 109, 110, 111, 112, 113, 114, 115, 116, 117, 118, 119, 120, 121, 122, 123, 124, 125, 126, 127, 128, 129, 130, 131, 132, 133, 134, 135, 136, 137, 138, 139, 140, 141, 142, 143, 144, 145, 146, 147, 160, 161, 162, 163, 164, 172, 173, 174, 175, 176, 177, 178, 179, 180, 181, 182, 183, 184, 185, 186, 187, 188, 189, 190, 191, 165, 166, 167, 168, 169, 170, 171, 192, 193, 194] (by decide +kernel) (by decide +kernel)
set_option maxRecDepth 20000 in
theorem gX5_boundedRooms_X5_freshCut : GoodIn wsX5_boundedRooms (wsV RX5 105 RX5 yX5_freshCut wsX5_freshCut) := goodIn_app (goodIn_of _ (by decide +kernel)) ggX5_boundedRooms_X5_freshCut
set_option maxRecDepth 20000 in
theorem ggX5_boundedRooms_X2_rankOfAll : GoodIn wsX5_boundedRooms wsX2_rankOfAll := goodIn_r _ [78, 43, 38, 185, 186, 187, 188, 189, 190, 191, 165, 166, 167, 168, 169, 170, 171] (by decide +kernel) (by decide +kernel)
set_option maxRecDepth 20000 in
theorem gX5_boundedRooms_X2_rankOfAll : GoodIn wsX5_boundedRooms (wsV RX5 127 RX2 yX2_rankOfAll wsX2_rankOfAll) := goodIn_app (goodIn_of _ (by decide +kernel)) ggX5_boundedRooms_X2_rankOfAll
set_option maxRecDepth 20000 in
theorem ggX5_boundedRooms_X2_factor : GoodIn wsX5_boundedRooms wsX2_factor := goodIn_r _ [152, 38, 33, 43, 153, 154, 155, 156, 157, 158, 159, 185, 186, 187, 188, 189, 190, 191, 165, 166, 167, 168, 169, 170, 171] (by decide +kernel) (by decide +kernel)
set_option maxRecDepth 20000 in
theorem gX5_boundedRooms_X2_factor : GoodIn wsX5_boundedRooms (wsV RX5 134 RX2 yX2_factor wsX2_factor) := goodIn_app (goodIn_of _ (by decide +kernel)) ggX5_boundedRooms_X2_factor
theorem dX5_boundedRooms_0 : decode cX5_boundedRooms 0 = .ok (.aload_n 0, 1) := by decide +kernel
theorem dX5_boundedRooms_1 : decode cX5_boundedRooms 1 = .ok (.invokevirtual 105, 3) := by decide +kernel
theorem dX5_boundedRooms_4 : decode cX5_boundedRooms 4 = .ok (.pop, 1) := by decide +kernel
theorem dX5_boundedRooms_5 : decode cX5_boundedRooms 5 = .ok (.aload_n 0, 1) := by decide +kernel
theorem dX5_boundedRooms_6 : decode cX5_boundedRooms 6 = .ok (.getfield 32, 3) := by decide +kernel
theorem dX5_boundedRooms_9 : decode cX5_boundedRooms 9 = .ok (.invokevirtual 127, 3) := by decide +kernel
theorem dX5_boundedRooms_12 : decode cX5_boundedRooms 12 = .ok (.aload_n 0, 1) := by decide +kernel
theorem dX5_boundedRooms_13 : decode cX5_boundedRooms 13 = .ok (.getfield 23, 3) := by decide +kernel
theorem dX5_boundedRooms_16 : decode cX5_boundedRooms 16 = .ok (.getfield 91, 3) := by decide +kernel
theorem dX5_boundedRooms_19 : decode cX5_boundedRooms 19 = .ok (.if_icmp .ge 5, 3) := by decide +kernel
theorem dX5_boundedRooms_22 : decode cX5_boundedRooms 22 = .ok (.iconst 0, 1) := by decide +kernel
theorem dX5_boundedRooms_23 : decode cX5_boundedRooms 23 = .ok (.ireturn, 1) := by decide +kernel
theorem dX5_boundedRooms_24 : decode cX5_boundedRooms 24 = .ok (.iconst 0, 1) := by decide +kernel
theorem dX5_boundedRooms_25 : decode cX5_boundedRooms 25 = .ok (.istore_n 1, 1) := by decide +kernel
theorem dX5_boundedRooms_26 : decode cX5_boundedRooms 26 = .ok (.iconst 0, 1) := by decide +kernel
theorem dX5_boundedRooms_27 : decode cX5_boundedRooms 27 = .ok (.istore_n 2, 1) := by decide +kernel
theorem dX5_boundedRooms_28 : decode cX5_boundedRooms 28 = .ok (.iload_n 2, 1) := by decide +kernel
theorem dX5_boundedRooms_29 : decode cX5_boundedRooms 29 = .ok (.aload_n 0, 1) := by decide +kernel
theorem dX5_boundedRooms_30 : decode cX5_boundedRooms 30 = .ok (.getfield 23, 3) := by decide +kernel
theorem dX5_boundedRooms_33 : decode cX5_boundedRooms 33 = .ok (.getfield 91, 3) := by decide +kernel
theorem dX5_boundedRooms_36 : decode cX5_boundedRooms 36 = .ok (.if_icmp .gt 21, 3) := by decide +kernel
theorem dX5_boundedRooms_39 : decode cX5_boundedRooms 39 = .ok (.iload_n 1, 1) := by decide +kernel
theorem dX5_boundedRooms_40 : decode cX5_boundedRooms 40 = .ok (.aload_n 0, 1) := by decide +kernel
theorem dX5_boundedRooms_41 : decode cX5_boundedRooms 41 = .ok (.getfield 32, 3) := by decide +kernel
theorem dX5_boundedRooms_44 : decode cX5_boundedRooms 44 = .ok (.iload_n 2, 1) := by decide +kernel
theorem dX5_boundedRooms_45 : decode cX5_boundedRooms 45 = .ok (.iconst 0, 1) := by decide +kernel
theorem dX5_boundedRooms_46 : decode cX5_boundedRooms 46 = .ok (.invokevirtual 134, 3) := by decide +kernel
theorem dX5_boundedRooms_49 : decode cX5_boundedRooms 49 = .ok (.iadd, 1) := by decide +kernel
theorem dX5_boundedRooms_50 : decode cX5_boundedRooms 50 = .ok (.istore_n 1, 1) := by decide +kernel
theorem dX5_boundedRooms_51 : decode cX5_boundedRooms 51 = .ok (.iinc 2 1, 3) := by decide +kernel
theorem dX5_boundedRooms_54 : decode cX5_boundedRooms 54 = .ok (.goto (-26), 3) := by decide +kernel
theorem dX5_boundedRooms_57 : decode cX5_boundedRooms 57 = .ok (.iload_n 1, 1) := by decide +kernel
theorem dX5_boundedRooms_58 : decode cX5_boundedRooms 58 = .ok (.invokestatic 137, 3) := by decide +kernel
theorem dX5_boundedRooms_61 : decode cX5_boundedRooms 61 = .ok (.ireturn, 1) := by decide +kernel
set_option maxRecDepth 20000 in
theorem ggX5_poly_X5_freshCut : GoodIn wsX5_poly wsX5_freshCut := goodIn_r _ [6, 7, 8, 9, 10, 11, 12, 13, 14, 15, 16, 17, 18, 19, 20, 21, 22, 23, 24, 25, 26, 27, 28, 29, 30, 31, 32, 33, 34, 35, 36, 37, 38, 39, 40, 41, 42, 43, 44, 45, 46, 47, 48, 49, 50, 51, 52, 53, 54, 55, 56, 57, 58, 59, 60, 61, 62, 63, 64, 65, 66, 67, 68, 69, 70, 71, 72, 73, 74, 75, 76, 77, 78, 79, 80, 81, 82, 83, 84, 85, 86, 87, 88, 89, 90, 91, 92, 93, 94, 95, 96, 97, 98, 99, 100, 101, 102, 103, 104, 5, 105, 106, 107, 108, 109, 110, 111, 112, 113, 114, 115, 116, 117, 118, 119, 120, 121, 122, 123, 124, 125, 126, 127, 128, 129, 130, 131, 132, 133, 134, 135, 136, 137, 138, 139, 140, 141, 142, 143, 155, 156, 157, 158, 159, 160, 161, 162, 163, 164, 165, 166, 167, 168, 169, 170, 171, 172, 173, 174, 175, 176, 177, 178, 179, 180, 181, 182, 183, 184, 185, 186, 187, 188, 189] (by decide +kernel) (by decide +kernel)
set_option maxRecDepth 20000 in
theorem gX5_poly_X5_freshCut : GoodIn wsX5_poly (wsV RX5 105 RX5 yX5_freshCut wsX5_freshCut) := goodIn_app (goodIn_of _ (by decide +kernel)) ggX5_poly_X5_freshCut
set_option maxRecDepth 20000 in
theorem ggX5_poly_X2_factor : GoodIn wsX5_poly wsX2_factor := goodIn_r _ [147, 33, 28, 38, 148, 149, 150, 151, 152, 153, 154, 173, 174, 175, 176, 177, 178, 179, 180, 181, 182, 183, 184, 185, 186] (by decide +kernel) (by decide +kernel)
set_option maxRecDepth 20000 in
theorem gX5_poly_X2_factor : GoodIn wsX5_poly (wsV RX5 134 RX2 yX2_factor wsX2_factor) := goodIn_app (goodIn_of _ (by decide +kernel)) ggX5_poly_X2_factor
theorem dX5_poly_0 : decode cX5_poly 0 = .ok (.aload_n 0, 1) := by decide +kernel
theorem dX5_poly_1 : decode cX5_poly 1 = .ok (.invokevirtual 105, 3) := by decide +kernel
theorem dX5_poly_4 : decode cX5_poly 4 = .ok (.pop, 1) := by decide +kernel
theorem dX5_poly_5 : decode cX5_poly 5 = .ok (.aload_n 0, 1) := by decide +kernel
theorem dX5_poly_6 : decode cX5_poly 6 = .ok (.getfield 32, 3) := by decide +kernel
theorem dX5_poly_9 : decode cX5_poly 9 = .ok (.iload_n 1, 1) := by decide +kernel
theorem dX5_poly_10 : decode cX5_poly 10 = .ok (.iconst 0, 1) := by decide +kernel
theorem dX5_poly_11 : decode cX5_poly 11 = .ok (.invokevirtual 134, 3) := by decide +kernel
theorem dX5_poly_14 : decode cX5_poly 14 = .ok (.ireturn, 1) := by decide +kernel
set_option maxRecDepth 20000 in
theorem ggX5_without_X3_holds : GoodIn wsX5_without wsX3_holds := goodIn_r _ [7, 8, 165, 166, 167, 168, 169, 170, 171] (by decide +kernel) (by decide +kernel)
set_option maxRecDepth 20000 in
theorem gX5_without_X3_holds : GoodIn wsX5_without (wsV RX5 71 RX3 yX3_holds wsX3_holds) := goodIn_app (goodIn_of _ (by decide +kernel)) ggX5_without_X3_holds
set_option maxRecDepth 20000 in
theorem ggX5_without_X5_freshCut : GoodIn wsX5_without wsX5_freshCut := goodIn_r _ [13, 14, 15, 16, 17, 18, 19, 20, 21, 22, 23, 24, 25, 26, 27, 28, 29, 30, 31, 32, 33, 34, 35, 36, 37, 38, 39, 40, 41, 42, 43, 44, 45, 46, 47, 48, 49, 50, 51, 52, 53, 54, 55, 56, 57, 58, 59, 60, 61, 62, 63, 64, 65, 66, 67, 68, 69, 70, 71, 72, 73, 74, 75, 76, 77, 78, 79, 80, 81, 82, 83, 6, 84, 8, 85, 86, 87, 88, 89, 90, 91, 92, 93, 94, 95, 96, 97, 98, 99, 100, 101, 102, 103, 104, 105, 106, 107, 108, 109, 12, 110, 111, 112, 113, 114, 115, 116, 117, 118, 119, 120, 121, 122, 123, 124, 125, 126, 127, 128, 129, 130, 131, 132, 133, 134, 135, 136, 137, 138, 139, 140, 141, 142, 143, 144, 145, 146, 147, 148, 160, 161, 162, 163, 164, 172, 173, 174, 175, 176, 177, 178, 179, 180, 181, 182, 183, 184, 185, 186, 187, 188, 189, 190, 191, 165, 166, 167, 168, 169, 170, 171, 192, 193, 194] (by decide +kernel) (by decide +kernel)
set_option maxRecDepth 20000 in
theorem gX5_without_X5_freshCut : GoodIn wsX5_without (wsV RX5 105 RX5 yX5_freshCut wsX5_freshCut) := goodIn_app (goodIn_of _ (by decide +kernel)) ggX5_without_X5_freshCut
set_option maxRecDepth 20000 in
theorem ggX5_without_X2_factor : GoodIn wsX5_without wsX2_factor := goodIn_r _ [152, 40, 35, 45, 153, 154, 155, 156, 157, 158, 159, 185, 186, 187, 188, 189, 190, 191, 165, 166, 167, 168, 169, 170, 171] (by decide +kernel) (by decide +kernel)
set_option maxRecDepth 20000 in
theorem gX5_without_X2_factor : GoodIn wsX5_without (wsV RX5 134 RX2 yX2_factor wsX2_factor) := goodIn_app (goodIn_of _ (by decide +kernel)) ggX5_without_X2_factor
theorem dX5_without_0 : decode cX5_without 0 = .ok (.aload_n 0, 1) := by decide +kernel
theorem dX5_without_1 : decode cX5_without 1 = .ok (.getfield 23, 3) := by decide +kernel
theorem dX5_without_4 : decode cX5_without 4 = .ok (.iload_n 1, 1) := by decide +kernel
theorem dX5_without_5 : decode cX5_without 5 = .ok (.invokevirtual 71, 3) := by decide +kernel
theorem dX5_without_8 : decode cX5_without 8 = .ok (.ifCond .ne 5, 3) := by decide +kernel
theorem dX5_without_11 : decode cX5_without 11 = .ok (.iconst 0, 1) := by decide +kernel
theorem dX5_without_12 : decode cX5_without 12 = .ok (.ireturn, 1) := by decide +kernel
theorem dX5_without_13 : decode cX5_without 13 = .ok (.aload_n 0, 1) := by decide +kernel
theorem dX5_without_14 : decode cX5_without 14 = .ok (.invokevirtual 105, 3) := by decide +kernel
theorem dX5_without_17 : decode cX5_without 17 = .ok (.pop, 1) := by decide +kernel
theorem dX5_without_18 : decode cX5_without 18 = .ok (.aload_n 0, 1) := by decide +kernel
theorem dX5_without_19 : decode cX5_without 19 = .ok (.getfield 32, 3) := by decide +kernel
theorem dX5_without_22 : decode cX5_without 22 = .ok (.iload_n 2, 1) := by decide +kernel
theorem dX5_without_23 : decode cX5_without 23 = .ok (.iconst 1, 1) := by decide +kernel
theorem dX5_without_24 : decode cX5_without 24 = .ok (.iload_n 1, 1) := by decide +kernel
theorem dX5_without_25 : decode cX5_without 25 = .ok (.ishl, 1) := by decide +kernel
theorem dX5_without_26 : decode cX5_without 26 = .ok (.invokevirtual 134, 3) := by decide +kernel
theorem dX5_without_29 : decode cX5_without 29 = .ok (.ireturn, 1) := by decide +kernel
set_option maxRecDepth 20000 in
theorem ggX5_on_X3_holds : GoodIn wsX5_on wsX3_holds := goodIn_r _ [7, 8, 165, 166, 167, 168, 169, 170, 171] (by decide +kernel) (by decide +kernel)
set_option maxRecDepth 20000 in
theorem gX5_on_X3_holds : GoodIn wsX5_on (wsV RX5 71 RX3 yX3_holds wsX3_holds) := goodIn_app (goodIn_of _ (by decide +kernel)) ggX5_on_X3_holds
set_option maxRecDepth 20000 in
theorem ggX5_on_X5_freshCut : GoodIn wsX5_on wsX5_freshCut := goodIn_r _ [13, 14, 15, 16, 17, 18, 19, 20, 21, 22, 23, 24, 25, 26, 27, 28, 29, 30, 31, 32, 33, 34, 35, 36, 37, 38, 39, 40, 41, 42, 43, 44, 45, 46, 47, 48, 49, 50, 51, 52, 53, 54, 55, 56, 57, 58, 59, 60, 61, 62, 63, 64, 65, 66, 67, 68, 69, 70, 71, 72, 73, 74, 75, 76, 77, 78, 79, 80, 81, 82, 83, 6, 84, 8, 85, 86, 87, 88, 89, 90, 91, 92, 93, 94, 95, 96, 97, 98, 99, 100, 101, 102, 103, 104, 105, 106, 107, 108, 109, 12, 110, 111, 112, 113, 114, 115, 116, 117, 118, 119, 120, 121, 122, 123, 124, 125, 126, 127, 128, 129, 130, 131, 132, 133, 134, 135, 136, 137, 138, 139, 140, 141, 142, 143, 144, 145, 146, 147, 148, 160, 161, 162, 163, 164, 172, 173, 174, 175, 176, 177, 178, 179, 180, 181, 182, 183, 184, 185, 186, 187, 188, 189, 190, 191, 165, 166, 167, 168, 169, 170, 171, 192, 193, 194] (by decide +kernel) (by decide +kernel)
set_option maxRecDepth 20000 in
theorem gX5_on_X5_freshCut : GoodIn wsX5_on (wsV RX5 105 RX5 yX5_freshCut wsX5_freshCut) := goodIn_app (goodIn_of _ (by decide +kernel)) ggX5_on_X5_freshCut
set_option maxRecDepth 20000 in
theorem ggX5_on_X2_factor : GoodIn wsX5_on wsX2_factor := goodIn_r _ [152, 40, 35, 45, 153, 154, 155, 156, 157, 158, 159, 185, 186, 187, 188, 189, 190, 191, 165, 166, 167, 168, 169, 170, 171] (by decide +kernel) (by decide +kernel)
set_option maxRecDepth 20000 in
theorem gX5_on_X2_factor : GoodIn wsX5_on (wsV RX5 134 RX2 yX2_factor wsX2_factor) := goodIn_app (goodIn_of _ (by decide +kernel)) ggX5_on_X2_factor
theorem dX5_on_0 : decode cX5_on 0 = .ok (.aload_n 0, 1) := by decide +kernel
theorem dX5_on_1 : decode cX5_on 1 = .ok (.getfield 23, 3) := by decide +kernel
theorem dX5_on_4 : decode cX5_on 4 = .ok (.iload_n 1, 1) := by decide +kernel
theorem dX5_on_5 : decode cX5_on 5 = .ok (.invokevirtual 71, 3) := by decide +kernel
theorem dX5_on_8 : decode cX5_on 8 = .ok (.ifCond .ne 5, 3) := by decide +kernel
theorem dX5_on_11 : decode cX5_on 11 = .ok (.iconst 0, 1) := by decide +kernel
theorem dX5_on_12 : decode cX5_on 12 = .ok (.ireturn, 1) := by decide +kernel
theorem dX5_on_13 : decode cX5_on 13 = .ok (.aload_n 0, 1) := by decide +kernel
theorem dX5_on_14 : decode cX5_on 14 = .ok (.invokevirtual 105, 3) := by decide +kernel
theorem dX5_on_17 : decode cX5_on 17 = .ok (.pop, 1) := by decide +kernel
theorem dX5_on_18 : decode cX5_on 18 = .ok (.aload_n 0, 1) := by decide +kernel
theorem dX5_on_19 : decode cX5_on 19 = .ok (.getfield 32, 3) := by decide +kernel
theorem dX5_on_22 : decode cX5_on 22 = .ok (.iload_n 2, 1) := by decide +kernel
theorem dX5_on_23 : decode cX5_on 23 = .ok (.iconst 1, 1) := by decide +kernel
theorem dX5_on_24 : decode cX5_on 24 = .ok (.iload_n 1, 1) := by decide +kernel
theorem dX5_on_25 : decode cX5_on 25 = .ok (.ishl, 1) := by decide +kernel
theorem dX5_on_26 : decode cX5_on 26 = .ok (.invokevirtual 134, 3) := by decide +kernel
theorem dX5_on_29 : decode cX5_on 29 = .ok (.aload_n 0, 1) := by decide +kernel
theorem dX5_on_30 : decode cX5_on 30 = .ok (.getfield 32, 3) := by decide +kernel
theorem dX5_on_33 : decode cX5_on 33 = .ok (.iload_n 2, 1) := by decide +kernel
theorem dX5_on_34 : decode cX5_on 34 = .ok (.iconst 0, 1) := by decide +kernel
theorem dX5_on_35 : decode cX5_on 35 = .ok (.invokevirtual 134, 3) := by decide +kernel
theorem dX5_on_38 : decode cX5_on 38 = .ok (.isub, 1) := by decide +kernel
theorem dX5_on_39 : decode cX5_on 39 = .ok (.ireturn, 1) := by decide +kernel
set_option maxRecDepth 20000 in
theorem ggX5_walls_X5_freshCut : GoodIn wsX5_walls wsX5_freshCut := goodIn_r _ [5, 6, 7, 8, 9, 10, 11, 12, 13, 14, 15, 16, 17, 18, 19, 20, 21, 22, 23, 24, 25, 26, 27, 28, 29, 30, 31, 32, 33, 34, 35, 36, 37, 38, 39, 40, 41, 42, 43, 44, 45, 46, 47, 48, 49, 50, 51, 52, 53, 54, 55, 56, 57, 58, 59, 60, 61, 62, 63, 64, 65, 66, 67, 68, 69, 70, 71, 72, 73, 74, 75, 76, 77, 78, 79, 80, 81, 82, 83, 84, 85, 86, 87, 88, 89, 90, 91, 92, 93, 94, 95, 96, 97, 98, 99, 100, 101, 102, 103, 4, 104, 105, 106, 107, 108, 109, 110, 111, 112, 113, 114, 115, 116, 117, 118, 119, 120, 121, 122, 123, 124, 125, 126, 127, 128, 129, 130, 131, 132, 133, 134, 135, 136, 137, 138, 139, 140, 141, 142, 159, 160, 161, 162, 163, 164, 165, 166, 167, 168, 169, 170, 171, 172, 173, 174, 175, 176, 177, 178, 179, 180, 181, 182, 183, 184, 185, 186, 187, 188, 189, 190, 191, 192, 193] (by decide +kernel) (by decide +kernel)
set_option maxRecDepth 20000 in
theorem gX5_walls_X5_freshCut : GoodIn wsX5_walls (wsV RX5 105 RX5 yX5_freshCut wsX5_freshCut) := goodIn_app (goodIn_of _ (by decide +kernel)) ggX5_walls_X5_freshCut
set_option maxRecDepth 20000 in
theorem ggX5_walls_X1_hasRoom : GoodIn wsX5_walls wsX1_hasRoom := goodIn_r _ [146, 147, 148, 149, 11, 150, 123, 124, 125, 126, 13, 137, 4, 138, 164, 165, 166, 167, 168, 169, 170, 171, 172, 173, 174, 175, 176] (by decide +kernel) (by decide +kernel)
set_option maxRecDepth 20000 in
theorem gX5_walls_X1_hasRoom : GoodIn wsX5_walls (wsV RX5 124 RX1 yX1_hasRoom wsX1_hasRoom) := goodIn_app (goodIn_of _ (by decide +kernel)) ggX5_walls_X1_hasRoom
set_option maxRecDepth 20000 in
theorem ggX5_walls_X1_wallsOf : GoodIn wsX5_walls wsX1_wallsOf := goodIn_r _ [154, 67, 155, 4, 156, 157, 158, 144, 145, 11, 146, 147, 148, 149, 150, 123, 124, 125, 126, 13, 137, 138, 164, 165, 166, 167, 168, 169, 170, 171, 172, 173, 174, 175, 176, 184, 185, 186, 187, 188, 189, 190] (by decide +kernel) (by decide +kernel)
set_option maxRecDepth 20000 in
theorem gX5_walls_X1_wallsOf : GoodIn wsX5_walls (wsV RX5 140 RX1 yX1_wallsOf wsX1_wallsOf) := goodIn_app (goodIn_of _ (by decide +kernel)) ggX5_walls_X1_wallsOf
theorem dX5_walls_0 : decode cX5_walls 0 = .ok (.aload_n 0, 1) := by decide +kernel
theorem dX5_walls_1 : decode cX5_walls 1 = .ok (.invokevirtual 105, 3) := by decide +kernel
theorem dX5_walls_4 : decode cX5_walls 4 = .ok (.astore_n 2, 1) := by decide +kernel
theorem dX5_walls_5 : decode cX5_walls 5 = .ok (.aload_n 2, 1) := by decide +kernel
theorem dX5_walls_6 : decode cX5_walls 6 = .ok (.iload_n 1, 1) := by decide +kernel
theorem dX5_walls_7 : decode cX5_walls 7 = .ok (.invokevirtual 124, 3) := by decide +kernel
theorem dX5_walls_10 : decode cX5_walls 10 = .ok (.ifCond .eq 11, 3) := by decide +kernel
theorem dX5_walls_13 : decode cX5_walls 13 = .ok (.aload_n 2, 1) := by decide +kernel
theorem dX5_walls_14 : decode cX5_walls 14 = .ok (.iload_n 1, 1) := by decide +kernel
theorem dX5_walls_15 : decode cX5_walls 15 = .ok (.invokevirtual 140, 3) := by decide +kernel
theorem dX5_walls_18 : decode cX5_walls 18 = .ok (.goto 4, 3) := by decide +kernel
theorem dX5_walls_21 : decode cX5_walls 21 = .ok (.iconst (-1), 1) := by decide +kernel
theorem dX5_walls_22 : decode cX5_walls 22 = .ok (.ireturn, 1) := by decide +kernel
set_option maxRecDepth 20000 in
theorem ggX5_beside_X5_freshCut : GoodIn wsX5_beside wsX5_freshCut := goodIn_r _ [6, 7, 8, 9, 10, 11, 12, 13, 14, 15, 16, 17, 18, 19, 20, 21, 22, 23, 24, 25, 26, 27, 28, 29, 30, 31, 32, 33, 34, 35, 36, 37, 38, 39, 40, 41, 42, 43, 44, 45, 46, 47, 48, 49, 50, 51, 52, 53, 54, 55, 56, 57, 58, 59, 60, 61, 62, 63, 64, 65, 66, 67, 68, 69, 70, 71, 72, 73, 74, 75, 76, 77, 78, 79, 80, 81, 82, 83, 84, 85, 86, 87, 88, 89, 90, 91, 92, 93, 94, 95, 96, 97, 98, 99, 100, 101, 102, 103, 104, 5, 105, 106, 107, 108, 109, 110, 111, 112, 113, 114, 115, 116, 117, 118, 119, 120, 121, 122, 123, 124, 125, 126, 127, 128, 129, 130, 131, 132, 133, 134, 135, 136, 137, 138, 139, 140, 141, 142, 143, 160, 161, 162, 163, 164, 165, 166, 167, 168, 169, 170, 171, 172, 173, 174, 175, 176, 177, 178, 179, 180, 181, 182, 183, 184, 185, 186, 187, 188, 189, 190, 191, 192, 193, 194] (by decide +kernel) (by decide +kernel)
set_option maxRecDepth 20000 in
theorem gX5_beside_X5_freshCut : GoodIn wsX5_beside (wsV RX5 105 RX5 yX5_freshCut wsX5_freshCut) := goodIn_app (goodIn_of _ (by decide +kernel)) ggX5_beside_X5_freshCut
set_option maxRecDepth 20000 in
theorem ggX5_beside_X3_holds : GoodIn wsX5_beside wsX3_holds := goodIn_r _ [147, 79, 185, 186, 187, 188, 189, 190, 191] (by decide +kernel) (by decide +kernel)
set_option maxRecDepth 20000 in
theorem gX5_beside_X3_holds : GoodIn wsX5_beside (wsV RX5 71 RX3 yX3_holds wsX3_holds) := goodIn_app (goodIn_of _ (by decide +kernel)) ggX5_beside_X3_holds
set_option maxRecDepth 20000 in
theorem ggX5_beside_X1_hasRoom : GoodIn wsX5_beside wsX1_hasRoom := goodIn_r _ [151, 152, 153, 154, 12, 155, 124, 125, 126, 127, 14, 138, 5, 139, 165, 166, 167, 168, 169, 170, 171, 172, 173, 174, 175, 176, 177] (by decide +kernel) (by decide +kernel)
set_option maxRecDepth 20000 in
theorem gX5_beside_X1_hasRoom : GoodIn wsX5_beside (wsV RX5 124 RX1 yX1_hasRoom wsX1_hasRoom) := goodIn_app (goodIn_of _ (by decide +kernel)) ggX5_beside_X1_hasRoom
set_option maxRecDepth 20000 in
theorem ggX5_beside_X5_across : GoodIn wsX5_beside wsX5_across := goodIn_r _ [158, 159] (by decide +kernel) (by decide +kernel)
set_option maxRecDepth 20000 in
theorem gX5_beside_X5_across : GoodIn wsX5_beside (va_wsS RX5 143 yX5_across wsX5_across) := goodIn_app (goodIn_of _ (by decide +kernel)) ggX5_beside_X5_across
theorem dX5_beside_0 : decode cX5_beside 0 = .ok (.aload_n 0, 1) := by decide +kernel
theorem dX5_beside_1 : decode cX5_beside 1 = .ok (.invokevirtual 105, 3) := by decide +kernel
theorem dX5_beside_4 : decode cX5_beside 4 = .ok (.astore_n 3, 1) := by decide +kernel
theorem dX5_beside_5 : decode cX5_beside 5 = .ok (.aload_n 0, 1) := by decide +kernel
theorem dX5_beside_6 : decode cX5_beside 6 = .ok (.getfield 23, 3) := by decide +kernel
theorem dX5_beside_9 : decode cX5_beside 9 = .ok (.iload_n 2, 1) := by decide +kernel
theorem dX5_beside_10 : decode cX5_beside 10 = .ok (.invokevirtual 71, 3) := by decide +kernel
theorem dX5_beside_13 : decode cX5_beside 13 = .ok (.ifCond .eq 11, 3) := by decide +kernel
theorem dX5_beside_16 : decode cX5_beside 16 = .ok (.aload_n 3, 1) := by decide +kernel
theorem dX5_beside_17 : decode cX5_beside 17 = .ok (.iload_n 1, 1) := by decide +kernel
theorem dX5_beside_18 : decode cX5_beside 18 = .ok (.invokevirtual 124, 3) := by decide +kernel
theorem dX5_beside_21 : decode cX5_beside 21 = .ok (.ifCond .ne 5, 3) := by decide +kernel
theorem dX5_beside_24 : decode cX5_beside 24 = .ok (.iconst (-1), 1) := by decide +kernel
theorem dX5_beside_25 : decode cX5_beside 25 = .ok (.ireturn, 1) := by decide +kernel
theorem dX5_beside_26 : decode cX5_beside 26 = .ok (.iload_n 1, 1) := by decide +kernel
theorem dX5_beside_27 : decode cX5_beside 27 = .ok (.iload_n 2, 1) := by decide +kernel
theorem dX5_beside_28 : decode cX5_beside 28 = .ok (.invokestatic 143, 3) := by decide +kernel
theorem dX5_beside_31 : decode cX5_beside 31 = .ok (.istore 4, 2) := by decide +kernel
theorem dX5_beside_33 : decode cX5_beside 33 = .ok (.aload_n 3, 1) := by decide +kernel
theorem dX5_beside_34 : decode cX5_beside 34 = .ok (.iload 4, 2) := by decide +kernel
theorem dX5_beside_36 : decode cX5_beside 36 = .ok (.invokevirtual 124, 3) := by decide +kernel
theorem dX5_beside_39 : decode cX5_beside 39 = .ok (.ifCond .eq 8, 3) := by decide +kernel
theorem dX5_beside_42 : decode cX5_beside 42 = .ok (.iload 4, 2) := by decide +kernel
theorem dX5_beside_44 : decode cX5_beside 44 = .ok (.goto 4, 3) := by decide +kernel
theorem dX5_beside_47 : decode cX5_beside 47 = .ok (.iconst (-1), 1) := by decide +kernel
theorem dX5_beside_48 : decode cX5_beside 48 = .ok (.ireturn, 1) := by decide +kernel
set_option maxRecDepth 20000 in
theorem ggX5_way_X5_freshCut : GoodIn wsX5_way wsX5_freshCut := goodIn_r _ [5, 6, 7, 8, 9, 10, 11, 12, 13, 14, 15, 16, 17, 18, 19, 20, 21, 22, 23, 24, 25, 26, 27, 28, 29, 30, 31, 32, 33, 34, 35, 36, 37, 38, 39, 40, 41, 42, 43, 44, 45, 46, 47, 48, 49, 50, 51, 52, 53, 54, 55, 56, 57, 58, 59, 60, 61, 62, 63, 64, 65, 66, 67, 68, 69, 70, 71, 72, 73, 74, 75, 76, 77, 78, 79, 80, 81, 82, 83, 84, 85, 86, 87, 88, 89, 90, 91, 92, 93, 94, 95, 96, 97, 98, 99, 100, 101, 102, 103, 4, 104, 105, 106, 107, 108, 109, 110, 111, 112, 113, 114, 115, 116, 117, 118, 119, 120, 121, 122, 123, 124, 125, 126, 127, 128, 129, 130, 131, 132, 133, 134, 135, 136, 137, 138, 139, 140, 141, 142, 162, 163, 164, 165, 166, 167, 168, 169, 170, 171, 172, 173, 174, 175, 176, 177, 178, 179, 180, 181, 182, 183, 184, 185, 186, 187, 188, 189, 190, 191, 192, 193, 194, 195, 196] (by decide +kernel) (by decide +kernel)
set_option maxRecDepth 20000 in
theorem gX5_way_X5_freshCut : GoodIn wsX5_way (wsV RX5 105 RX5 yX5_freshCut wsX5_freshCut) := goodIn_app (goodIn_of _ (by decide +kernel)) ggX5_way_X5_freshCut
set_option maxRecDepth 20000 in
theorem ggX5_way_X1_hasRoom : GoodIn wsX5_way wsX1_hasRoom := goodIn_r _ [146, 147, 148, 149, 11, 150, 123, 124, 125, 126, 13, 137, 4, 138, 167, 168, 169, 170, 171, 172, 173, 174, 175, 176, 177, 178, 179] (by decide +kernel) (by decide +kernel)
set_option maxRecDepth 20000 in
theorem gX5_way_X1_hasRoom : GoodIn wsX5_way (wsV RX5 124 RX1 yX1_hasRoom wsX1_hasRoom) := goodIn_app (goodIn_of _ (by decide +kernel)) ggX5_way_X1_hasRoom
set_option maxRecDepth 20000 in
theorem ggX5_way_X5_parting : GoodIn wsX5_way wsX5_parting := goodIn_r _ [153, 154, 137, 4, 138] (by decide +kernel) (by decide +kernel)
set_option maxRecDepth 20000 in
theorem gX5_way_X5_parting : GoodIn wsX5_way (va_wsS RX5 146 yX5_parting wsX5_parting) := goodIn_app (goodIn_of _ (by decide +kernel)) ggX5_way_X5_parting
set_option maxRecDepth 20000 in
theorem ggX5_way_J6_bitCount_0f7a4 : GoodIn wsX5_way wsJ6_bitCount_0f7a4 := goodIn_r _ [158, 159, 160, 161] (by decide +kernel) (by decide +kernel)
set_option maxRecDepth 20000 in
theorem gX5_way_J6_bitCount_0f7a4 : GoodIn wsX5_way (va_wsS RX5 149 yJ6_bitCount_0f7a4 wsJ6_bitCount_0f7a4) := goodIn_app (goodIn_of _ (by decide +kernel)) ggX5_way_J6_bitCount_0f7a4
theorem dX5_way_0 : decode cX5_way 0 = .ok (.aload_n 0, 1) := by decide +kernel
theorem dX5_way_1 : decode cX5_way 1 = .ok (.invokevirtual 105, 3) := by decide +kernel
theorem dX5_way_4 : decode cX5_way 4 = .ok (.astore_n 3, 1) := by decide +kernel
theorem dX5_way_5 : decode cX5_way 5 = .ok (.aload_n 3, 1) := by decide +kernel
theorem dX5_way_6 : decode cX5_way 6 = .ok (.iload_n 1, 1) := by decide +kernel
theorem dX5_way_7 : decode cX5_way 7 = .ok (.invokevirtual 124, 3) := by decide +kernel
theorem dX5_way_10 : decode cX5_way 10 = .ok (.ifCond .eq 11, 3) := by decide +kernel
theorem dX5_way_13 : decode cX5_way 13 = .ok (.aload_n 3, 1) := by decide +kernel
theorem dX5_way_14 : decode cX5_way 14 = .ok (.iload_n 2, 1) := by decide +kernel
theorem dX5_way_15 : decode cX5_way 15 = .ok (.invokevirtual 124, 3) := by decide +kernel
theorem dX5_way_18 : decode cX5_way 18 = .ok (.ifCond .ne 5, 3) := by decide +kernel
theorem dX5_way_21 : decode cX5_way 21 = .ok (.iconst (-1), 1) := by decide +kernel
theorem dX5_way_22 : decode cX5_way 22 = .ok (.ireturn, 1) := by decide +kernel
theorem dX5_way_23 : decode cX5_way 23 = .ok (.iload_n 1, 1) := by decide +kernel
theorem dX5_way_24 : decode cX5_way 24 = .ok (.iload_n 2, 1) := by decide +kernel
theorem dX5_way_25 : decode cX5_way 25 = .ok (.invokestatic 146, 3) := by decide +kernel
theorem dX5_way_28 : decode cX5_way 28 = .ok (.invokestatic 149, 3) := by decide +kernel
theorem dX5_way_31 : decode cX5_way 31 = .ok (.ireturn, 1) := by decide +kernel
set_option maxRecDepth 20000 in
theorem ggX5_step_X5_freshCut : GoodIn wsX5_step wsX5_freshCut := goodIn_r _ [6, 7, 8, 9, 10, 11, 12, 13, 14, 15, 16, 17, 18, 19, 20, 21, 22, 23, 24, 25, 26, 27, 28, 29, 30, 31, 32, 33, 34, 35, 36, 37, 38, 39, 40, 41, 42, 43, 44, 45, 46, 47, 48, 49, 50, 51, 52, 53, 54, 55, 56, 57, 58, 59, 60, 61, 62, 63, 64, 65, 66, 67, 68, 69, 70, 71, 72, 73, 74, 75, 76, 77, 78, 79, 80, 81, 82, 83, 84, 85, 86, 87, 88, 89, 90, 91, 92, 93, 94, 95, 96, 97, 98, 99, 100, 101, 102, 103, 104, 5, 105, 106, 107, 108, 109, 110, 111, 112, 113, 114, 115, 116, 117, 118, 119, 120, 121, 122, 123, 124, 125, 126, 127, 128, 129, 130, 131, 132, 133, 134, 135, 136, 137, 138, 139, 140, 141, 142, 143, 164, 165, 166, 167, 168, 176, 177, 178, 179, 180, 181, 182, 183, 184, 185, 186, 187, 188, 189, 190, 191, 192, 193, 194, 195, 169, 170, 171, 172, 173, 174, 175, 196, 197, 198] (by decide +kernel) (by decide +kernel)
set_option maxRecDepth 20000 in
theorem gX5_step_X5_freshCut : GoodIn wsX5_step (wsV RX5 105 RX5 yX5_freshCut wsX5_freshCut) := goodIn_app (goodIn_of _ (by decide +kernel)) ggX5_step_X5_freshCut
set_option maxRecDepth 20000 in
theorem ggX5_step_X1_hasRoom : GoodIn wsX5_step wsX1_hasRoom := goodIn_r _ [147, 148, 149, 150, 12, 151, 124, 125, 126, 127, 14, 138, 5, 139, 176, 177, 178, 179, 180, 181, 182, 183, 184, 185, 186, 187, 188] (by decide +kernel) (by decide +kernel)
set_option maxRecDepth 20000 in
theorem gX5_step_X1_hasRoom : GoodIn wsX5_step (wsV RX5 124 RX1 yX1_hasRoom wsX1_hasRoom) := goodIn_app (goodIn_of _ (by decide +kernel)) ggX5_step_X1_hasRoom
set_option maxRecDepth 20000 in
theorem ggX5_step_X5_parting : GoodIn wsX5_step wsX5_parting := goodIn_r _ [154, 155, 138, 5, 139] (by decide +kernel) (by decide +kernel)
set_option maxRecDepth 20000 in
theorem gX5_step_X5_parting : GoodIn wsX5_step (va_wsS RX5 146 yX5_parting wsX5_parting) := goodIn_app (goodIn_of _ (by decide +kernel)) ggX5_step_X5_parting
set_option maxRecDepth 20000 in
theorem ggX5_step_X1_wallsOf : GoodIn wsX5_step wsX1_wallsOf := goodIn_r _ [159, 68, 160, 5, 161, 162, 163, 145, 146, 12, 147, 148, 149, 150, 151, 124, 125, 126, 127, 14, 138, 139, 176, 177, 178, 179, 180, 181, 182, 183, 184, 185, 186, 187, 188, 169, 170, 171, 172, 173, 174, 175] (by decide +kernel) (by decide +kernel)
set_option maxRecDepth 20000 in
theorem gX5_step_X1_wallsOf : GoodIn wsX5_step (wsV RX5 140 RX1 yX1_wallsOf wsX1_wallsOf) := goodIn_app (goodIn_of _ (by decide +kernel)) ggX5_step_X1_wallsOf
theorem dX5_step_0 : decode cX5_step 0 = .ok (.aload_n 0, 1) := by decide +kernel
theorem dX5_step_1 : decode cX5_step 1 = .ok (.invokevirtual 105, 3) := by decide +kernel
theorem dX5_step_4 : decode cX5_step 4 = .ok (.astore_n 3, 1) := by decide +kernel
theorem dX5_step_5 : decode cX5_step 5 = .ok (.aload_n 3, 1) := by decide +kernel
theorem dX5_step_6 : decode cX5_step 6 = .ok (.iload_n 1, 1) := by decide +kernel
theorem dX5_step_7 : decode cX5_step 7 = .ok (.invokevirtual 124, 3) := by decide +kernel
theorem dX5_step_10 : decode cX5_step 10 = .ok (.ifCond .eq 11, 3) := by decide +kernel
theorem dX5_step_13 : decode cX5_step 13 = .ok (.aload_n 3, 1) := by decide +kernel
theorem dX5_step_14 : decode cX5_step 14 = .ok (.iload_n 2, 1) := by decide +kernel
theorem dX5_step_15 : decode cX5_step 15 = .ok (.invokevirtual 124, 3) := by decide +kernel
theorem dX5_step_18 : decode cX5_step 18 = .ok (.ifCond .ne 5, 3) := by decide +kernel
theorem dX5_step_21 : decode cX5_step 21 = .ok (.iconst (-1), 1) := by decide +kernel
theorem dX5_step_22 : decode cX5_step 22 = .ok (.ireturn, 1) := by decide +kernel
theorem dX5_step_23 : decode cX5_step 23 = .ok (.iload_n 1, 1) := by decide +kernel
theorem dX5_step_24 : decode cX5_step 24 = .ok (.iload_n 2, 1) := by decide +kernel
theorem dX5_step_25 : decode cX5_step 25 = .ok (.invokestatic 146, 3) := by decide +kernel
theorem dX5_step_28 : decode cX5_step 28 = .ok (.aload_n 3, 1) := by decide +kernel
theorem dX5_step_29 : decode cX5_step 29 = .ok (.iload_n 1, 1) := by decide +kernel
theorem dX5_step_30 : decode cX5_step 30 = .ok (.invokevirtual 140, 3) := by decide +kernel
theorem dX5_step_33 : decode cX5_step 33 = .ok (.iand, 1) := by decide +kernel
theorem dX5_step_34 : decode cX5_step 34 = .ok (.istore 4, 2) := by decide +kernel
theorem dX5_step_36 : decode cX5_step 36 = .ok (.iconst 0, 1) := by decide +kernel
theorem dX5_step_37 : decode cX5_step 37 = .ok (.istore 5, 2) := by decide +kernel
theorem dX5_step_39 : decode cX5_step 39 = .ok (.iload 5, 2) := by decide +kernel
theorem dX5_step_41 : decode cX5_step 41 = .ok (.aload_n 0, 1) := by decide +kernel
theorem dX5_step_42 : decode cX5_step 42 = .ok (.getfield 23, 3) := by decide +kernel
theorem dX5_step_45 : decode cX5_step 45 = .ok (.getfield 56, 3) := by decide +kernel
theorem dX5_step_48 : decode cX5_step 48 = .ok (.if_icmp .ge 23, 3) := by decide +kernel
theorem dX5_step_51 : decode cX5_step 51 = .ok (.iload 4, 2) := by decide +kernel
theorem dX5_step_53 : decode cX5_step 53 = .ok (.iload 5, 2) := by decide +kernel
theorem dX5_step_55 : decode cX5_step 55 = .ok (.ishr, 1) := by decide +kernel
theorem dX5_step_56 : decode cX5_step 56 = .ok (.iconst 1, 1) := by decide +kernel
theorem dX5_step_57 : decode cX5_step 57 = .ok (.iand, 1) := by decide +kernel
theorem dX5_step_58 : decode cX5_step 58 = .ok (.iconst 1, 1) := by decide +kernel
theorem dX5_step_59 : decode cX5_step 59 = .ok (.if_icmp .ne 6, 3) := by decide +kernel
theorem dX5_step_62 : decode cX5_step 62 = .ok (.iload 5, 2) := by decide +kernel
theorem dX5_step_64 : decode cX5_step 64 = .ok (.ireturn, 1) := by decide +kernel
theorem dX5_step_65 : decode cX5_step 65 = .ok (.iinc 5 1, 3) := by decide +kernel
theorem dX5_step_68 : decode cX5_step 68 = .ok (.goto (-29), 3) := by decide +kernel
theorem dX5_step_71 : decode cX5_step 71 = .ok (.iconst (-1), 1) := by decide +kernel
theorem dX5_step_72 : decode cX5_step 72 = .ok (.ireturn, 1) := by decide +kernel
theorem dX5_far_0 : decode cX5_far 0 = .ok (.aload_n 0, 1) := by decide +kernel
theorem dX5_far_1 : decode cX5_far 1 = .ok (.getfield 23, 3) := by decide +kernel
theorem dX5_far_4 : decode cX5_far 4 = .ok (.getfield 56, 3) := by decide +kernel
theorem dX5_far_7 : decode cX5_far 7 = .ok (.ireturn, 1) := by decide +kernel
set_option maxRecDepth 20000 in
theorem ggX5_left_X5_isPrime : GoodIn wsX5_left wsX5_isPrime := goodIn_r _ [5] (by decide +kernel) (by decide +kernel)
set_option maxRecDepth 20000 in
theorem gX5_left_X5_isPrime : GoodIn wsX5_left (va_wsS RX5 154 yX5_isPrime wsX5_isPrime) := goodIn_app (goodIn_of _ (by decide +kernel)) ggX5_left_X5_isPrime
set_option maxRecDepth 20000 in
theorem ggX5_left_X4_countMissed : GoodIn wsX5_left wsX4_countMissed := goodIn_r _ [10, 11, 12, 13, 14, 15, 16, 17, 18, 9, 19, 20, 21, 22, 23, 24, 25, 26, 27, 28, 29, 30, 36, 37, 38, 39, 40, 41, 42, 43, 44] (by decide +kernel) (by decide +kernel)
set_option maxRecDepth 20000 in
theorem gX5_left_X4_countMissed : GoodIn wsX5_left (wsV RX5 157 RX4 yX4_countMissed wsX4_countMissed) := goodIn_app (goodIn_of _ (by decide +kernel)) ggX5_left_X4_countMissed
theorem dX5_left_0 : decode cX5_left 0 = .ok (.iload_n 1, 1) := by decide +kernel
theorem dX5_left_1 : decode cX5_left 1 = .ok (.invokestatic 154, 3) := by decide +kernel
theorem dX5_left_4 : decode cX5_left 4 = .ok (.ifCond .eq 14, 3) := by decide +kernel
theorem dX5_left_7 : decode cX5_left 7 = .ok (.aload_n 0, 1) := by decide +kernel
theorem dX5_left_8 : decode cX5_left 8 = .ok (.getfield 48, 3) := by decide +kernel
theorem dX5_left_11 : decode cX5_left 11 = .ok (.iload_n 1, 1) := by decide +kernel
theorem dX5_left_12 : decode cX5_left 12 = .ok (.invokevirtual 157, 3) := by decide +kernel
theorem dX5_left_15 : decode cX5_left 15 = .ok (.goto 4, 3) := by decide +kernel
theorem dX5_left_18 : decode cX5_left 18 = .ok (.iconst (-1), 1) := by decide +kernel
theorem dX5_left_19 : decode cX5_left 19 = .ok (.ireturn, 1) := by decide +kernel
set_option maxRecDepth 20000 in
theorem ggX5_count_X5_freshCut : GoodIn wsX5_count wsX5_freshCut := goodIn_r _ [7, 8, 9, 10, 11, 12, 13, 14, 15, 16, 17, 18, 19, 20, 21, 22, 23, 24, 25, 26, 27, 28, 29, 30, 31, 32, 33, 34, 35, 36, 37, 38, 39, 40, 41, 42, 43, 44, 45, 46, 47, 48, 49, 50, 51, 52, 53, 54, 55, 56, 57, 58, 59, 60, 61, 62, 63, 64, 65, 66, 67, 68, 69, 70, 71, 72, 73, 74, 75, 76, 77, 78, 79, 80, 81, 82, 83, 84, 85, 86, 87, 88, 89, 90, 91, 92, 93, 94, 95, 96, 97, 98, 99, 100, 101, 102, 103, 104, 105, 6, 106, 107, 108, 109, 110, 111, 112, 113, 114, 115, 116, 117, 118, 119, 120, 121, 122, 123, 124, 125, 126, 127, 128, 129, 130, 131, 132, 133, 134, 135, 136, 137, 138, 139, 140, 141, 142, 143, 144, 150, 151, 152, 153, 154, 162, 163, 164, 165, 166, 167, 168, 169, 170, 171, 172, 173, 174, 175, 176, 177, 178, 179, 180, 181, 155, 156, 157, 158, 159, 160, 161, 182, 183, 184] (by decide +kernel) (by decide +kernel)
set_option maxRecDepth 20000 in
theorem gX5_count_X5_freshCut : GoodIn wsX5_count (wsV RX5 105 RX5 yX5_freshCut wsX5_freshCut) := goodIn_app (goodIn_of _ (by decide +kernel)) ggX5_count_X5_freshCut
set_option maxRecDepth 20000 in
theorem ggX5_count_X1_countOfWidth : GoodIn wsX5_count wsX1_countOfWidth := goodIn_r _ [148, 16, 138, 162, 163, 164, 165, 166, 167, 168, 169, 170, 171, 172, 173, 174] (by decide +kernel) (by decide +kernel)
set_option maxRecDepth 20000 in
theorem gX5_count_X1_countOfWidth : GoodIn wsX5_count (wsV RX5 109 RX1 yX1_countOfWidth wsX1_countOfWidth) := goodIn_app (goodIn_of _ (by decide +kernel)) ggX5_count_X1_countOfWidth
set_option maxRecDepth 20000 in
theorem ggX5_count_X2_rankOfAll : GoodIn wsX5_count wsX2_rankOfAll := goodIn_r _ [74, 39, 34, 175, 176, 177, 178, 179, 180, 181, 155, 156, 157, 158, 159, 160, 161] (by decide +kernel) (by decide +kernel)
set_option maxRecDepth 20000 in
theorem gX5_count_X2_rankOfAll : GoodIn wsX5_count (wsV RX5 127 RX2 yX2_rankOfAll wsX2_rankOfAll) := goodIn_app (goodIn_of _ (by decide +kernel)) ggX5_count_X2_rankOfAll
theorem dX5_count_0 : decode cX5_count 0 = .ok (.iload_n 1, 1) := by decide +kernel
theorem dX5_count_1 : decode cX5_count 1 = .ok (.tableswitch 87 0 4 #[35, 43, 51, 66, 74], 35) := by decide +kernel
theorem dX5_count_36 : decode cX5_count 36 = .ok (.aload_n 0, 1) := by decide +kernel
theorem dX5_count_37 : decode cX5_count 37 = .ok (.getfield 23, 3) := by decide +kernel
theorem dX5_count_40 : decode cX5_count 40 = .ok (.getfield 91, 3) := by decide +kernel
theorem dX5_count_43 : decode cX5_count 43 = .ok (.ireturn, 1) := by decide +kernel
theorem dX5_count_44 : decode cX5_count 44 = .ok (.aload_n 0, 1) := by decide +kernel
theorem dX5_count_45 : decode cX5_count 45 = .ok (.getfield 23, 3) := by decide +kernel
theorem dX5_count_48 : decode cX5_count 48 = .ok (.getfield 56, 3) := by decide +kernel
theorem dX5_count_51 : decode cX5_count 51 = .ok (.ireturn, 1) := by decide +kernel
theorem dX5_count_52 : decode cX5_count 52 = .ok (.aload_n 0, 1) := by decide +kernel
theorem dX5_count_53 : decode cX5_count 53 = .ok (.invokevirtual 105, 3) := by decide +kernel
theorem dX5_count_56 : decode cX5_count 56 = .ok (.aload_n 0, 1) := by decide +kernel
theorem dX5_count_57 : decode cX5_count 57 = .ok (.getfield 23, 3) := by decide +kernel
theorem dX5_count_60 : decode cX5_count 60 = .ok (.getfield 91, 3) := by decide +kernel
theorem dX5_count_63 : decode cX5_count 63 = .ok (.invokevirtual 109, 3) := by decide +kernel
theorem dX5_count_66 : decode cX5_count 66 = .ok (.ireturn, 1) := by decide +kernel
theorem dX5_count_67 : decode cX5_count 67 = .ok (.aload_n 0, 1) := by decide +kernel
theorem dX5_count_68 : decode cX5_count 68 = .ok (.invokevirtual 105, 3) := by decide +kernel
theorem dX5_count_71 : decode cX5_count 71 = .ok (.getfield 160, 3) := by decide +kernel
theorem dX5_count_74 : decode cX5_count 74 = .ok (.ireturn, 1) := by decide +kernel
theorem dX5_count_75 : decode cX5_count 75 = .ok (.aload_n 0, 1) := by decide +kernel
theorem dX5_count_76 : decode cX5_count 76 = .ok (.invokevirtual 105, 3) := by decide +kernel
theorem dX5_count_79 : decode cX5_count 79 = .ok (.pop, 1) := by decide +kernel
theorem dX5_count_80 : decode cX5_count 80 = .ok (.aload_n 0, 1) := by decide +kernel
theorem dX5_count_81 : decode cX5_count 81 = .ok (.getfield 32, 3) := by decide +kernel
theorem dX5_count_84 : decode cX5_count 84 = .ok (.invokevirtual 127, 3) := by decide +kernel
theorem dX5_count_87 : decode cX5_count 87 = .ok (.ireturn, 1) := by decide +kernel
theorem dX5_count_88 : decode cX5_count 88 = .ok (.iconst (-1), 1) := by decide +kernel
theorem dX5_count_89 : decode cX5_count 89 = .ok (.ireturn, 1) := by decide +kernel
set_option maxRecDepth 20000 in
theorem ggX5_freshCut_X1_cutAnew : GoodIn wsX5_freshCut wsX1_cutAnew := goodIn_r _ [7, 8, 9, 10, 11, 12, 13, 14, 15, 16, 17, 18, 19, 20, 21, 22, 23, 24, 25, 26, 27, 28, 29, 30, 31, 32, 33, 34, 35, 36, 37, 38, 39, 40, 41, 42, 43, 44, 45, 46, 47, 48, 49, 50, 51, 52, 53, 54, 55, 56, 57, 58, 59, 60, 6, 61, 62, 63, 64, 65, 66, 67, 68, 69, 70, 71, 72, 73, 74, 75, 76, 77, 78, 79, 80, 81, 82, 83, 84, 85, 86, 87, 88, 89, 90, 91, 92, 93, 94, 95, 96, 97, 98, 99, 100, 101, 102, 103, 104, 105, 106, 107, 108, 109, 110, 111, 112, 113, 114, 115, 116, 117, 118, 119, 120, 121, 122, 123, 124, 125, 126, 127, 128, 129, 130, 131, 132, 133, 134, 135, 136, 137, 138, 144, 145, 146, 147, 148, 149, 150, 151, 152, 153, 154, 155, 156, 157, 158, 159, 160, 161, 162, 163, 164, 165, 166, 167, 168, 169, 170, 171, 172, 173] (by decide +kernel) (by decide +kernel)
set_option maxRecDepth 20000 in
theorem gX5_freshCut_X1_cutAnew : GoodIn wsX5_freshCut (wsV RX5 163 RX1 yX1_cutAnew wsX1_cutAnew) := goodIn_app (goodIn_of _ (by decide +kernel)) ggX5_freshCut_X1_cutAnew
theorem dX5_freshCut_0 : decode cX5_freshCut 0 = .ok (.aload_n 0, 1) := by decide +kernel
theorem dX5_freshCut_1 : decode cX5_freshCut 1 = .ok (.getfield 52, 3) := by decide +kernel
theorem dX5_freshCut_4 : decode cX5_freshCut 4 = .ok (.ifCond .ne 15, 3) := by decide +kernel
theorem dX5_freshCut_7 : decode cX5_freshCut 7 = .ok (.aload_n 0, 1) := by decide +kernel
theorem dX5_freshCut_8 : decode cX5_freshCut 8 = .ok (.getfield 41, 3) := by decide +kernel
theorem dX5_freshCut_11 : decode cX5_freshCut 11 = .ok (.invokevirtual 163, 3) := by decide +kernel
theorem dX5_freshCut_14 : decode cX5_freshCut 14 = .ok (.aload_n 0, 1) := by decide +kernel
theorem dX5_freshCut_15 : decode cX5_freshCut 15 = .ok (.iconst 1, 1) := by decide +kernel
theorem dX5_freshCut_16 : decode cX5_freshCut 16 = .ok (.putfield 52, 3) := by decide +kernel
theorem dX5_freshCut_19 : decode cX5_freshCut 19 = .ok (.aload_n 0, 1) := by decide +kernel
theorem dX5_freshCut_20 : decode cX5_freshCut 20 = .ok (.getfield 41, 3) := by decide +kernel
theorem dX5_freshCut_23 : decode cX5_freshCut 23 = .ok (.areturn, 1) := by decide +kernel
theorem dX5_isTooFar_0 : decode cX5_isTooFar 0 = .ok (.iload_n 0, 1) := by decide +kernel
theorem dX5_isTooFar_1 : decode cX5_isTooFar 1 = .ok (.ldc 166, 2) := by decide +kernel
theorem dX5_isTooFar_3 : decode cX5_isTooFar 3 = .ok (.if_icmp .gt 9, 3) := by decide +kernel
theorem dX5_isTooFar_6 : decode cX5_isTooFar 6 = .ok (.iload_n 0, 1) := by decide +kernel
theorem dX5_isTooFar_7 : decode cX5_isTooFar 7 = .ok (.ldc 167, 2) := by decide +kernel
theorem dX5_isTooFar_9 : decode cX5_isTooFar 9 = .ok (.if_icmp .ge 7, 3) := by decide +kernel
theorem dX5_isTooFar_12 : decode cX5_isTooFar 12 = .ok (.iconst 1, 1) := by decide +kernel
theorem dX5_isTooFar_13 : decode cX5_isTooFar 13 = .ok (.goto 4, 3) := by decide +kernel
theorem dX5_isTooFar_16 : decode cX5_isTooFar 16 = .ok (.iconst 0, 1) := by decide +kernel
theorem dX5_isTooFar_17 : decode cX5_isTooFar 17 = .ok (.ireturn, 1) := by decide +kernel
theorem dX5_isPrime_0 : decode cX5_isPrime 0 = .ok (.iload_n 0, 1) := by decide +kernel
theorem dX5_isPrime_1 : decode cX5_isPrime 1 = .ok (.iconst 2, 1) := by decide +kernel
theorem dX5_isPrime_2 : decode cX5_isPrime 2 = .ok (.if_icmp .lt 9, 3) := by decide +kernel
theorem dX5_isPrime_5 : decode cX5_isPrime 5 = .ok (.iload_n 0, 1) := by decide +kernel
theorem dX5_isPrime_6 : decode cX5_isPrime 6 = .ok (.bipush 31, 2) := by decide +kernel
theorem dX5_isPrime_8 : decode cX5_isPrime 8 = .ok (.if_icmp .le 5, 3) := by decide +kernel
theorem dX5_isPrime_11 : decode cX5_isPrime 11 = .ok (.iconst 0, 1) := by decide +kernel
theorem dX5_isPrime_12 : decode cX5_isPrime 12 = .ok (.ireturn, 1) := by decide +kernel
theorem dX5_isPrime_13 : decode cX5_isPrime 13 = .ok (.iconst 2, 1) := by decide +kernel
theorem dX5_isPrime_14 : decode cX5_isPrime 14 = .ok (.istore_n 1, 1) := by decide +kernel
theorem dX5_isPrime_15 : decode cX5_isPrime 15 = .ok (.iload_n 1, 1) := by decide +kernel
theorem dX5_isPrime_16 : decode cX5_isPrime 16 = .ok (.iload_n 1, 1) := by decide +kernel
theorem dX5_isPrime_17 : decode cX5_isPrime 17 = .ok (.imul, 1) := by decide +kernel
theorem dX5_isPrime_18 : decode cX5_isPrime 18 = .ok (.iload_n 0, 1) := by decide +kernel
theorem dX5_isPrime_19 : decode cX5_isPrime 19 = .ok (.if_icmp .gt 17, 3) := by decide +kernel
theorem dX5_isPrime_22 : decode cX5_isPrime 22 = .ok (.iload_n 0, 1) := by decide +kernel
theorem dX5_isPrime_23 : decode cX5_isPrime 23 = .ok (.iload_n 1, 1) := by decide +kernel
theorem dX5_isPrime_24 : decode cX5_isPrime 24 = .ok (.irem, 1) := by decide +kernel
theorem dX5_isPrime_25 : decode cX5_isPrime 25 = .ok (.ifCond .ne 5, 3) := by decide +kernel
theorem dX5_isPrime_28 : decode cX5_isPrime 28 = .ok (.iconst 0, 1) := by decide +kernel
theorem dX5_isPrime_29 : decode cX5_isPrime 29 = .ok (.ireturn, 1) := by decide +kernel
theorem dX5_isPrime_30 : decode cX5_isPrime 30 = .ok (.iinc 1 1, 3) := by decide +kernel
theorem dX5_isPrime_33 : decode cX5_isPrime 33 = .ok (.goto (-18), 3) := by decide +kernel
theorem dX5_isPrime_36 : decode cX5_isPrime 36 = .ok (.iconst 1, 1) := by decide +kernel
theorem dX5_isPrime_37 : decode cX5_isPrime 37 = .ok (.ireturn, 1) := by decide +kernel
set_option maxRecDepth 20000 in
theorem ggX5_parting_X5_maskOf : GoodIn wsX5_parting wsX5_maskOf := goodIn_r _ [4] (by decide +kernel) (by decide +kernel)
set_option maxRecDepth 20000 in
theorem gX5_parting_X5_maskOf : GoodIn wsX5_parting (va_wsS RX5 121 yX5_maskOf wsX5_maskOf) := goodIn_app (goodIn_of _ (by decide +kernel)) ggX5_parting_X5_maskOf
theorem dX5_parting_0 : decode cX5_parting 0 = .ok (.iload_n 0, 1) := by decide +kernel
theorem dX5_parting_1 : decode cX5_parting 1 = .ok (.iconst 2, 1) := by decide +kernel
theorem dX5_parting_2 : decode cX5_parting 2 = .ok (.invokestatic 121, 3) := by decide +kernel
theorem dX5_parting_5 : decode cX5_parting 5 = .ok (.iload_n 1, 1) := by decide +kernel
theorem dX5_parting_6 : decode cX5_parting 6 = .ok (.iconst 2, 1) := by decide +kernel
theorem dX5_parting_7 : decode cX5_parting 7 = .ok (.invokestatic 121, 3) := by decide +kernel
theorem dX5_parting_10 : decode cX5_parting 10 = .ok (.ixor, 1) := by decide +kernel
theorem dX5_parting_11 : decode cX5_parting 11 = .ok (.ireturn, 1) := by decide +kernel
theorem dX5_maskOf_0 : decode cX5_maskOf 0 = .ok (.iconst 0, 1) := by decide +kernel
theorem dX5_maskOf_1 : decode cX5_maskOf 1 = .ok (.istore_n 2, 1) := by decide +kernel
theorem dX5_maskOf_2 : decode cX5_maskOf 2 = .ok (.iload_n 0, 1) := by decide +kernel
theorem dX5_maskOf_3 : decode cX5_maskOf 3 = .ok (.istore_n 3, 1) := by decide +kernel
theorem dX5_maskOf_4 : decode cX5_maskOf 4 = .ok (.iconst 0, 1) := by decide +kernel
theorem dX5_maskOf_5 : decode cX5_maskOf 5 = .ok (.istore 4, 2) := by decide +kernel
theorem dX5_maskOf_7 : decode cX5_maskOf 7 = .ok (.iload 4, 2) := by decide +kernel
theorem dX5_maskOf_9 : decode cX5_maskOf 9 = .ok (.bipush 8, 2) := by decide +kernel
theorem dX5_maskOf_11 : decode cX5_maskOf 11 = .ok (.if_icmp .ge 27, 3) := by decide +kernel
theorem dX5_maskOf_14 : decode cX5_maskOf 14 = .ok (.iload_n 3, 1) := by decide +kernel
theorem dX5_maskOf_15 : decode cX5_maskOf 15 = .ok (.iconst 3, 1) := by decide +kernel
theorem dX5_maskOf_16 : decode cX5_maskOf 16 = .ok (.irem, 1) := by decide +kernel
theorem dX5_maskOf_17 : decode cX5_maskOf 17 = .ok (.iload_n 1, 1) := by decide +kernel
theorem dX5_maskOf_18 : decode cX5_maskOf 18 = .ok (.if_icmp .ne 10, 3) := by decide +kernel
theorem dX5_maskOf_21 : decode cX5_maskOf 21 = .ok (.iload_n 2, 1) := by decide +kernel
theorem dX5_maskOf_22 : decode cX5_maskOf 22 = .ok (.iconst 1, 1) := by decide +kernel
theorem dX5_maskOf_23 : decode cX5_maskOf 23 = .ok (.iload 4, 2) := by decide +kernel
theorem dX5_maskOf_25 : decode cX5_maskOf 25 = .ok (.ishl, 1) := by decide +kernel
theorem dX5_maskOf_26 : decode cX5_maskOf 26 = .ok (.ior, 1) := by decide +kernel
theorem dX5_maskOf_27 : decode cX5_maskOf 27 = .ok (.istore_n 2, 1) := by decide +kernel
theorem dX5_maskOf_28 : decode cX5_maskOf 28 = .ok (.iload_n 3, 1) := by decide +kernel
theorem dX5_maskOf_29 : decode cX5_maskOf 29 = .ok (.iconst 3, 1) := by decide +kernel
theorem dX5_maskOf_30 : decode cX5_maskOf 30 = .ok (.idiv, 1) := by decide +kernel
theorem dX5_maskOf_31 : decode cX5_maskOf 31 = .ok (.istore_n 3, 1) := by decide +kernel
theorem dX5_maskOf_32 : decode cX5_maskOf 32 = .ok (.iinc 4 1, 3) := by decide +kernel
theorem dX5_maskOf_35 : decode cX5_maskOf 35 = .ok (.goto (-28), 3) := by decide +kernel
theorem dX5_maskOf_38 : decode cX5_maskOf 38 = .ok (.iload_n 2, 1) := by decide +kernel
theorem dX5_maskOf_39 : decode cX5_maskOf 39 = .ok (.ireturn, 1) := by decide +kernel
theorem dX5_onMask_0 : decode cX5_onMask 0 = .ok (.iload_n 0, 1) := by decide +kernel
theorem dX5_onMask_1 : decode cX5_onMask 1 = .ok (.sipush 255, 3) := by decide +kernel
theorem dX5_onMask_4 : decode cX5_onMask 4 = .ok (.iand, 1) := by decide +kernel
theorem dX5_onMask_5 : decode cX5_onMask 5 = .ok (.ireturn, 1) := by decide +kernel
theorem dX5_aboveMask_0 : decode cX5_aboveMask 0 = .ok (.iload_n 0, 1) := by decide +kernel
theorem dX5_aboveMask_1 : decode cX5_aboveMask 1 = .ok (.bipush 8, 2) := by decide +kernel
theorem dX5_aboveMask_3 : decode cX5_aboveMask 3 = .ok (.ishr, 1) := by decide +kernel
theorem dX5_aboveMask_4 : decode cX5_aboveMask 4 = .ok (.sipush 255, 3) := by decide +kernel
theorem dX5_aboveMask_7 : decode cX5_aboveMask 7 = .ok (.iand, 1) := by decide +kernel
theorem dX5_aboveMask_8 : decode cX5_aboveMask 8 = .ok (.ireturn, 1) := by decide +kernel
theorem dX5_across_0 : decode cX5_across 0 = .ok (.iload_n 1, 1) := by decide +kernel
theorem dX5_across_1 : decode cX5_across 1 = .ok (.ifCond .lt 9, 3) := by decide +kernel
theorem dX5_across_4 : decode cX5_across 4 = .ok (.iload_n 1, 1) := by decide +kernel
theorem dX5_across_5 : decode cX5_across 5 = .ok (.bipush 8, 2) := by decide +kernel
theorem dX5_across_7 : decode cX5_across 7 = .ok (.if_icmp .lt 5, 3) := by decide +kernel
theorem dX5_across_10 : decode cX5_across 10 = .ok (.iconst (-1), 1) := by decide +kernel
theorem dX5_across_11 : decode cX5_across 11 = .ok (.ireturn, 1) := by decide +kernel
theorem dX5_across_12 : decode cX5_across 12 = .ok (.iconst 2, 1) := by decide +kernel
theorem dX5_across_13 : decode cX5_across 13 = .ok (.getstatic 168, 3) := by decide +kernel
theorem dX5_across_16 : decode cX5_across 16 = .ok (.iload_n 1, 1) := by decide +kernel
theorem dX5_across_17 : decode cX5_across 17 = .ok (.iaload, 1) := by decide +kernel
theorem dX5_across_18 : decode cX5_across 18 = .ok (.imul, 1) := by decide +kernel
theorem dX5_across_19 : decode cX5_across 19 = .ok (.istore_n 2, 1) := by decide +kernel
theorem dX5_across_20 : decode cX5_across 20 = .ok (.iload_n 0, 1) := by decide +kernel
theorem dX5_across_21 : decode cX5_across 21 = .ok (.getstatic 168, 3) := by decide +kernel
theorem dX5_across_24 : decode cX5_across 24 = .ok (.iload_n 1, 1) := by decide +kernel
theorem dX5_across_25 : decode cX5_across 25 = .ok (.iaload, 1) := by decide +kernel
theorem dX5_across_26 : decode cX5_across 26 = .ok (.idiv, 1) := by decide +kernel
theorem dX5_across_27 : decode cX5_across 27 = .ok (.iconst 3, 1) := by decide +kernel
theorem dX5_across_28 : decode cX5_across 28 = .ok (.irem, 1) := by decide +kernel
theorem dX5_across_29 : decode cX5_across 29 = .ok (.ifCond .ne 9, 3) := by decide +kernel
theorem dX5_across_32 : decode cX5_across 32 = .ok (.iload_n 0, 1) := by decide +kernel
theorem dX5_across_33 : decode cX5_across 33 = .ok (.iload_n 2, 1) := by decide +kernel
theorem dX5_across_34 : decode cX5_across 34 = .ok (.iadd, 1) := by decide +kernel
theorem dX5_across_35 : decode cX5_across 35 = .ok (.goto 6, 3) := by decide +kernel
theorem dX5_across_38 : decode cX5_across 38 = .ok (.iload_n 0, 1) := by decide +kernel
theorem dX5_across_39 : decode cX5_across 39 = .ok (.iload_n 2, 1) := by decide +kernel
theorem dX5_across_40 : decode cX5_across 40 = .ok (.isub, 1) := by decide +kernel
theorem dX5_across_41 : decode cX5_across 41 = .ok (.ireturn, 1) := by decide +kernel
theorem dX6_init_0 : decode cX6_init 0 = .ok (.aload_n 0, 1) := by decide +kernel
theorem dX6_init_1 : decode cX6_init 1 = .ok (.invokespecial 1, 3) := by decide +kernel
theorem dX6_init_4 : decode cX6_init 4 = .ok (.aload_n 0, 1) := by decide +kernel
theorem dX6_init_5 : decode cX6_init 5 = .ok (.bipush 32, 2) := by decide +kernel
theorem dX6_init_7 : decode cX6_init 7 = .ok (.newarray .int, 2) := by decide +kernel
theorem dX6_init_9 : decode cX6_init 9 = .ok (.putfield 9, 3) := by decide +kernel
theorem dX6_init_12 : decode cX6_init 12 = .ok (.aload_n 0, 1) := by decide +kernel
theorem dX6_init_13 : decode cX6_init 13 = .ok (.sipush 6561, 3) := by decide +kernel
theorem dX6_init_16 : decode cX6_init 16 = .ok (.newarray .boolean, 2) := by decide +kernel
theorem dX6_init_18 : decode cX6_init 18 = .ok (.putfield 13, 3) := by decide +kernel
theorem dX6_init_21 : decode cX6_init 21 = .ok (.aload_n 0, 1) := by decide +kernel
theorem dX6_init_22 : decode cX6_init 22 = .ok (.iconst 1, 1) := by decide +kernel
theorem dX6_init_23 : decode cX6_init 23 = .ok (.putfield 17, 3) := by decide +kernel
theorem dX6_init_26 : decode cX6_init 26 = .ok (.aload_n 0, 1) := by decide +kernel
theorem dX6_init_27 : decode cX6_init 27 = .ok (.sipush 4400, 3) := by decide +kernel
theorem dX6_init_30 : decode cX6_init 30 = .ok (.newarray .long, 2) := by decide +kernel
theorem dX6_init_32 : decode cX6_init 32 = .ok (.putfield 21, 3) := by decide +kernel
theorem dX6_init_35 : decode cX6_init 35 = .ok (.aload_n 0, 1) := by decide +kernel
theorem dX6_init_36 : decode cX6_init 36 = .ok (.sipush 1100, 3) := by decide +kernel
theorem dX6_init_39 : decode cX6_init 39 = .ok (.newarray .boolean, 2) := by decide +kernel
theorem dX6_init_41 : decode cX6_init 41 = .ok (.putfield 25, 3) := by decide +kernel
theorem dX6_init_44 : decode cX6_init 44 = .ok (.aload_n 0, 1) := by decide +kernel
theorem dX6_init_45 : decode cX6_init 45 = .ok (.sipush 4400, 3) := by decide +kernel
theorem dX6_init_48 : decode cX6_init 48 = .ok (.newarray .long, 2) := by decide +kernel
theorem dX6_init_50 : decode cX6_init 50 = .ok (.putfield 28, 3) := by decide +kernel
theorem dX6_init_53 : decode cX6_init 53 = .ok (.aload_n 0, 1) := by decide +kernel
theorem dX6_init_54 : decode cX6_init 54 = .ok (.sipush 1100, 3) := by decide +kernel
theorem dX6_init_57 : decode cX6_init 57 = .ok (.newarray .boolean, 2) := by decide +kernel
theorem dX6_init_59 : decode cX6_init 59 = .ok (.putfield 31, 3) := by decide +kernel
theorem dX6_init_62 : decode cX6_init 62 = .ok (.aload_n 0, 1) := by decide +kernel
theorem dX6_init_63 : decode cX6_init 63 = .ok (.bipush 32, 2) := by decide +kernel
theorem dX6_init_65 : decode cX6_init 65 = .ok (.newarray .long, 2) := by decide +kernel
theorem dX6_init_67 : decode cX6_init 67 = .ok (.putfield 34, 3) := by decide +kernel
theorem dX6_init_70 : decode cX6_init 70 = .ok (.aload_n 0, 1) := by decide +kernel
theorem dX6_init_71 : decode cX6_init 71 = .ok (.iload_n 1, 1) := by decide +kernel
theorem dX6_init_72 : decode cX6_init 72 = .ok (.iconst 1, 1) := by decide +kernel
theorem dX6_init_73 : decode cX6_init 73 = .ok (.if_icmp .ge 7, 3) := by decide +kernel
theorem dX6_init_76 : decode cX6_init 76 = .ok (.iconst 1, 1) := by decide +kernel
theorem dX6_init_77 : decode cX6_init 77 = .ok (.goto 13, 3) := by decide +kernel
theorem dX6_init_80 : decode cX6_init 80 = .ok (.iload_n 1, 1) := by decide +kernel
theorem dX6_init_81 : decode cX6_init 81 = .ok (.iconst 3, 1) := by decide +kernel
theorem dX6_init_82 : decode cX6_init 82 = .ok (.if_icmp .le 7, 3) := by decide +kernel
theorem dX6_init_85 : decode cX6_init 85 = .ok (.iconst 3, 1) := by decide +kernel
theorem dX6_init_86 : decode cX6_init 86 = .ok (.goto 4, 3) := by decide +kernel
theorem dX6_init_89 : decode cX6_init 89 = .ok (.iload_n 1, 1) := by decide +kernel
theorem dX6_init_90 : decode cX6_init 90 = .ok (.putfield 37, 3) := by decide +kernel
theorem dX6_init_93 : decode cX6_init 93 = .ok (.return_, 1) := by decide +kernel
theorem dX6_in_0 : decode cX6_in 0 = .ok (.iload_n 0, 1) := by decide +kernel
theorem dX6_in_1 : decode cX6_in 1 = .ok (.iload_n 1, 1) := by decide +kernel
theorem dX6_in_2 : decode cX6_in 2 = .ok (.if_icmp .lt 12, 3) := by decide +kernel
theorem dX6_in_5 : decode cX6_in 5 = .ok (.iload_n 0, 1) := by decide +kernel
theorem dX6_in_6 : decode cX6_in 6 = .ok (.iload_n 2, 1) := by decide +kernel
theorem dX6_in_7 : decode cX6_in 7 = .ok (.if_icmp .gt 7, 3) := by decide +kernel
theorem dX6_in_10 : decode cX6_in 10 = .ok (.iconst 1, 1) := by decide +kernel
theorem dX6_in_11 : decode cX6_in 11 = .ok (.goto 4, 3) := by decide +kernel
theorem dX6_in_14 : decode cX6_in 14 = .ok (.iconst 0, 1) := by decide +kernel
theorem dX6_in_15 : decode cX6_in 15 = .ok (.ireturn, 1) := by decide +kernel
theorem dX6_at_0 : decode cX6_at 0 = .ok (.aload_n 0, 1) := by decide +kernel
theorem dX6_at_1 : decode cX6_at 1 = .ok (.getfield 9, 3) := by decide +kernel
theorem dX6_at_4 : decode cX6_at 4 = .ok (.iconst 4, 1) := by decide +kernel
theorem dX6_at_5 : decode cX6_at 5 = .ok (.iload_n 1, 1) := by decide +kernel
theorem dX6_at_6 : decode cX6_at 6 = .ok (.imul, 1) := by decide +kernel
theorem dX6_at_7 : decode cX6_at 7 = .ok (.iload_n 2, 1) := by decide +kernel
theorem dX6_at_8 : decode cX6_at 8 = .ok (.iadd, 1) := by decide +kernel
theorem dX6_at_9 : decode cX6_at 9 = .ok (.iaload, 1) := by decide +kernel
theorem dX6_at_10 : decode cX6_at 10 = .ok (.ireturn, 1) := by decide +kernel
set_option maxRecDepth 20000 in
theorem ggX6_isSame_X6_at : GoodIn wsX6_isSame wsX6_at := goodIn_r _ [6, 7, 8, 9, 10, 11, 12, 13, 14, 15, 16, 17, 18, 19] (by decide +kernel) (by decide +kernel)
set_option maxRecDepth 20000 in
theorem gX6_isSame_X6_at : GoodIn wsX6_isSame (wsV RX6 41 RX6 yX6_at wsX6_at) := goodIn_app (goodIn_of _ (by decide +kernel)) ggX6_isSame_X6_at
theorem dX6_isSame_0 : decode cX6_isSame 0 = .ok (.iconst 4, 1) := by decide +kernel
theorem dX6_isSame_1 : decode cX6_isSame 1 = .ok (.newarray .int, 2) := by decide +kernel
theorem dX6_isSame_3 : decode cX6_isSame 3 = .ok (.dup, 1) := by decide +kernel
theorem dX6_isSame_4 : decode cX6_isSame 4 = .ok (.iconst 0, 1) := by decide +kernel
theorem dX6_isSame_5 : decode cX6_isSame 5 = .ok (.iload_n 2, 1) := by decide +kernel
theorem dX6_isSame_6 : decode cX6_isSame 6 = .ok (.iastore, 1) := by decide +kernel
theorem dX6_isSame_7 : decode cX6_isSame 7 = .ok (.dup, 1) := by decide +kernel
theorem dX6_isSame_8 : decode cX6_isSame 8 = .ok (.iconst 1, 1) := by decide +kernel
theorem dX6_isSame_9 : decode cX6_isSame 9 = .ok (.iload_n 3, 1) := by decide +kernel
theorem dX6_isSame_10 : decode cX6_isSame 10 = .ok (.iastore, 1) := by decide +kernel
theorem dX6_isSame_11 : decode cX6_isSame 11 = .ok (.dup, 1) := by decide +kernel
theorem dX6_isSame_12 : decode cX6_isSame 12 = .ok (.iconst 2, 1) := by decide +kernel
theorem dX6_isSame_13 : decode cX6_isSame 13 = .ok (.iload 4, 2) := by decide +kernel
theorem dX6_isSame_15 : decode cX6_isSame 15 = .ok (.iastore, 1) := by decide +kernel
theorem dX6_isSame_16 : decode cX6_isSame 16 = .ok (.dup, 1) := by decide +kernel
theorem dX6_isSame_17 : decode cX6_isSame 17 = .ok (.iconst 3, 1) := by decide +kernel
theorem dX6_isSame_18 : decode cX6_isSame 18 = .ok (.iload 5, 2) := by decide +kernel
theorem dX6_isSame_20 : decode cX6_isSame 20 = .ok (.iastore, 1) := by decide +kernel
theorem dX6_isSame_21 : decode cX6_isSame 21 = .ok (.astore 6, 2) := by decide +kernel
theorem dX6_isSame_23 : decode cX6_isSame 23 = .ok (.iconst 0, 1) := by decide +kernel
theorem dX6_isSame_24 : decode cX6_isSame 24 = .ok (.istore 7, 2) := by decide +kernel
theorem dX6_isSame_26 : decode cX6_isSame 26 = .ok (.iload 7, 2) := by decide +kernel
theorem dX6_isSame_28 : decode cX6_isSame 28 = .ok (.iconst 4, 1) := by decide +kernel
theorem dX6_isSame_29 : decode cX6_isSame 29 = .ok (.if_icmp .ge 55, 3) := by decide +kernel
theorem dX6_isSame_32 : decode cX6_isSame 32 = .ok (.iconst 0, 1) := by decide +kernel
theorem dX6_isSame_33 : decode cX6_isSame 33 = .ok (.istore 8, 2) := by decide +kernel
theorem dX6_isSame_35 : decode cX6_isSame 35 = .ok (.iload 8, 2) := by decide +kernel
theorem dX6_isSame_37 : decode cX6_isSame 37 = .ok (.iconst 4, 1) := by decide +kernel
theorem dX6_isSame_38 : decode cX6_isSame 38 = .ok (.if_icmp .ge 40, 3) := by decide +kernel
theorem dX6_isSame_41 : decode cX6_isSame 41 = .ok (.aload_n 0, 1) := by decide +kernel
theorem dX6_isSame_42 : decode cX6_isSame 42 = .ok (.iload_n 1, 1) := by decide +kernel
theorem dX6_isSame_43 : decode cX6_isSame 43 = .ok (.iload 7, 2) := by decide +kernel
theorem dX6_isSame_45 : decode cX6_isSame 45 = .ok (.invokevirtual 41, 3) := by decide +kernel
theorem dX6_isSame_48 : decode cX6_isSame 48 = .ok (.aload 6, 2) := by decide +kernel
theorem dX6_isSame_50 : decode cX6_isSame 50 = .ok (.iload 8, 2) := by decide +kernel
theorem dX6_isSame_52 : decode cX6_isSame 52 = .ok (.iaload, 1) := by decide +kernel
theorem dX6_isSame_53 : decode cX6_isSame 53 = .ok (.imul, 1) := by decide +kernel
theorem dX6_isSame_54 : decode cX6_isSame 54 = .ok (.aload_n 0, 1) := by decide +kernel
theorem dX6_isSame_55 : decode cX6_isSame 55 = .ok (.iload_n 1, 1) := by decide +kernel
theorem dX6_isSame_56 : decode cX6_isSame 56 = .ok (.iload 8, 2) := by decide +kernel
theorem dX6_isSame_58 : decode cX6_isSame 58 = .ok (.invokevirtual 41, 3) := by decide +kernel
theorem dX6_isSame_61 : decode cX6_isSame 61 = .ok (.aload 6, 2) := by decide +kernel
theorem dX6_isSame_63 : decode cX6_isSame 63 = .ok (.iload 7, 2) := by decide +kernel
theorem dX6_isSame_65 : decode cX6_isSame 65 = .ok (.iaload, 1) := by decide +kernel
theorem dX6_isSame_66 : decode cX6_isSame 66 = .ok (.imul, 1) := by decide +kernel
theorem dX6_isSame_67 : decode cX6_isSame 67 = .ok (.if_icmp .eq 5, 3) := by decide +kernel
theorem dX6_isSame_70 : decode cX6_isSame 70 = .ok (.iconst 0, 1) := by decide +kernel
theorem dX6_isSame_71 : decode cX6_isSame 71 = .ok (.ireturn, 1) := by decide +kernel
theorem dX6_isSame_72 : decode cX6_isSame 72 = .ok (.iinc 8 1, 3) := by decide +kernel
theorem dX6_isSame_75 : decode cX6_isSame 75 = .ok (.goto (-40), 3) := by decide +kernel
theorem dX6_isSame_78 : decode cX6_isSame 78 = .ok (.iinc 7 1, 3) := by decide +kernel
theorem dX6_isSame_81 : decode cX6_isSame 81 = .ok (.goto (-55), 3) := by decide +kernel
theorem dX6_isSame_84 : decode cX6_isSame 84 = .ok (.iconst 1, 1) := by decide +kernel
theorem dX6_isSame_85 : decode cX6_isSame 85 = .ok (.ireturn, 1) := by decide +kernel
set_option maxRecDepth 20000 in
theorem ggX6_wall_X6_in : GoodIn wsX6_wall wsX6_in := goodIn_r _ [8] (by decide +kernel) (by decide +kernel)
set_option maxRecDepth 20000 in
theorem gX6_wall_X6_in : GoodIn wsX6_wall (va_wsS RX6 45 yX6_in wsX6_in) := goodIn_app (goodIn_of _ (by decide +kernel)) ggX6_wall_X6_in
set_option maxRecDepth 20000 in
theorem ggX6_wall_X6_isSame : GoodIn wsX6_wall wsX6_isSame := goodIn_r _ [12, 13, 14, 15, 16, 7, 17, 3, 18, 19, 20, 21, 22, 23, 24, 25, 26, 27, 28, 29] (by decide +kernel) (by decide +kernel)
set_option maxRecDepth 20000 in
theorem gX6_wall_X6_isSame : GoodIn wsX6_wall (wsV RX6 52 RX6 yX6_isSame wsX6_isSame) := goodIn_app (goodIn_of _ (by decide +kernel)) ggX6_wall_X6_isSame
theorem dX6_wall_0 : decode cX6_wall 0 = .ok (.iload_n 1, 1) := by decide +kernel
theorem dX6_wall_1 : decode cX6_wall 1 = .ok (.bipush (-9), 2) := by decide +kernel
theorem dX6_wall_3 : decode cX6_wall 3 = .ok (.bipush 9, 2) := by decide +kernel
theorem dX6_wall_5 : decode cX6_wall 5 = .ok (.invokestatic 45, 3) := by decide +kernel
theorem dX6_wall_8 : decode cX6_wall 8 = .ok (.ifCond .eq 49, 3) := by decide +kernel
theorem dX6_wall_11 : decode cX6_wall 11 = .ok (.iload_n 2, 1) := by decide +kernel
theorem dX6_wall_12 : decode cX6_wall 12 = .ok (.bipush (-9), 2) := by decide +kernel
theorem dX6_wall_14 : decode cX6_wall 14 = .ok (.bipush 9, 2) := by decide +kernel
theorem dX6_wall_16 : decode cX6_wall 16 = .ok (.invokestatic 45, 3) := by decide +kernel
theorem dX6_wall_19 : decode cX6_wall 19 = .ok (.ifCond .eq 38, 3) := by decide +kernel
theorem dX6_wall_22 : decode cX6_wall 22 = .ok (.iload_n 3, 1) := by decide +kernel
theorem dX6_wall_23 : decode cX6_wall 23 = .ok (.bipush (-9), 2) := by decide +kernel
theorem dX6_wall_25 : decode cX6_wall 25 = .ok (.bipush 9, 2) := by decide +kernel
theorem dX6_wall_27 : decode cX6_wall 27 = .ok (.invokestatic 45, 3) := by decide +kernel
theorem dX6_wall_30 : decode cX6_wall 30 = .ok (.ifCond .eq 27, 3) := by decide +kernel
theorem dX6_wall_33 : decode cX6_wall 33 = .ok (.iload 4, 2) := by decide +kernel
theorem dX6_wall_35 : decode cX6_wall 35 = .ok (.bipush (-99), 2) := by decide +kernel
theorem dX6_wall_37 : decode cX6_wall 37 = .ok (.bipush 99, 2) := by decide +kernel
theorem dX6_wall_39 : decode cX6_wall 39 = .ok (.invokestatic 45, 3) := by decide +kernel
theorem dX6_wall_42 : decode cX6_wall 42 = .ok (.ifCond .eq 15, 3) := by decide +kernel
theorem dX6_wall_45 : decode cX6_wall 45 = .ok (.iload_n 1, 1) := by decide +kernel
theorem dX6_wall_46 : decode cX6_wall 46 = .ok (.ifCond .ne 13, 3) := by decide +kernel
theorem dX6_wall_49 : decode cX6_wall 49 = .ok (.iload_n 2, 1) := by decide +kernel
theorem dX6_wall_50 : decode cX6_wall 50 = .ok (.ifCond .ne 9, 3) := by decide +kernel
theorem dX6_wall_53 : decode cX6_wall 53 = .ok (.iload_n 3, 1) := by decide +kernel
theorem dX6_wall_54 : decode cX6_wall 54 = .ok (.ifCond .ne 5, 3) := by decide +kernel
theorem dX6_wall_57 : decode cX6_wall 57 = .ok (.iconst (-1), 1) := by decide +kernel
theorem dX6_wall_58 : decode cX6_wall 58 = .ok (.ireturn, 1) := by decide +kernel
theorem dX6_wall_59 : decode cX6_wall 59 = .ok (.aload_n 0, 1) := by decide +kernel
theorem dX6_wall_60 : decode cX6_wall 60 = .ok (.getfield 37, 3) := by decide +kernel
theorem dX6_wall_63 : decode cX6_wall 63 = .ok (.iconst 3, 1) := by decide +kernel
theorem dX6_wall_64 : decode cX6_wall 64 = .ok (.if_icmp .ge 7, 3) := by decide +kernel
theorem dX6_wall_67 : decode cX6_wall 67 = .ok (.iload_n 3, 1) := by decide +kernel
theorem dX6_wall_68 : decode cX6_wall 68 = .ok (.ifCond .ne 24, 3) := by decide +kernel
theorem dX6_wall_71 : decode cX6_wall 71 = .ok (.aload_n 0, 1) := by decide +kernel
theorem dX6_wall_72 : decode cX6_wall 72 = .ok (.getfield 37, 3) := by decide +kernel
theorem dX6_wall_75 : decode cX6_wall 75 = .ok (.iconst 2, 1) := by decide +kernel
theorem dX6_wall_76 : decode cX6_wall 76 = .ok (.if_icmp .ge 7, 3) := by decide +kernel
theorem dX6_wall_79 : decode cX6_wall 79 = .ok (.iload_n 2, 1) := by decide +kernel
theorem dX6_wall_80 : decode cX6_wall 80 = .ok (.ifCond .ne 12, 3) := by decide +kernel
theorem dX6_wall_83 : decode cX6_wall 83 = .ok (.aload_n 0, 1) := by decide +kernel
theorem dX6_wall_84 : decode cX6_wall 84 = .ok (.getfield 49, 3) := by decide +kernel
theorem dX6_wall_87 : decode cX6_wall 87 = .ok (.bipush 8, 2) := by decide +kernel
theorem dX6_wall_89 : decode cX6_wall 89 = .ok (.if_icmp .ne 5, 3) := by decide +kernel
theorem dX6_wall_92 : decode cX6_wall 92 = .ok (.iconst (-1), 1) := by decide +kernel
theorem dX6_wall_93 : decode cX6_wall 93 = .ok (.ireturn, 1) := by decide +kernel
theorem dX6_wall_94 : decode cX6_wall 94 = .ok (.iconst 0, 1) := by decide +kernel
theorem dX6_wall_95 : decode cX6_wall 95 = .ok (.istore 5, 2) := by decide +kernel
theorem dX6_wall_97 : decode cX6_wall 97 = .ok (.iload 5, 2) := by decide +kernel
theorem dX6_wall_99 : decode cX6_wall 99 = .ok (.aload_n 0, 1) := by decide +kernel
theorem dX6_wall_100 : decode cX6_wall 100 = .ok (.getfield 49, 3) := by decide +kernel
theorem dX6_wall_103 : decode cX6_wall 103 = .ok (.if_icmp .ge 25, 3) := by decide +kernel
theorem dX6_wall_106 : decode cX6_wall 106 = .ok (.aload_n 0, 1) := by decide +kernel
theorem dX6_wall_107 : decode cX6_wall 107 = .ok (.iload 5, 2) := by decide +kernel
theorem dX6_wall_109 : decode cX6_wall 109 = .ok (.iload_n 1, 1) := by decide +kernel
theorem dX6_wall_110 : decode cX6_wall 110 = .ok (.iload_n 2, 1) := by decide +kernel
theorem dX6_wall_111 : decode cX6_wall 111 = .ok (.iload_n 3, 1) := by decide +kernel
theorem dX6_wall_112 : decode cX6_wall 112 = .ok (.iload 4, 2) := by decide +kernel
theorem dX6_wall_114 : decode cX6_wall 114 = .ok (.invokevirtual 52, 3) := by decide +kernel
theorem dX6_wall_117 : decode cX6_wall 117 = .ok (.ifCond .eq 5, 3) := by decide +kernel
theorem dX6_wall_120 : decode cX6_wall 120 = .ok (.iconst (-1), 1) := by decide +kernel
theorem dX6_wall_121 : decode cX6_wall 121 = .ok (.ireturn, 1) := by decide +kernel
theorem dX6_wall_122 : decode cX6_wall 122 = .ok (.iinc 5 1, 3) := by decide +kernel
theorem dX6_wall_125 : decode cX6_wall 125 = .ok (.goto (-28), 3) := by decide +kernel
theorem dX6_wall_128 : decode cX6_wall 128 = .ok (.aload_n 0, 1) := by decide +kernel
theorem dX6_wall_129 : decode cX6_wall 129 = .ok (.getfield 9, 3) := by decide +kernel
theorem dX6_wall_132 : decode cX6_wall 132 = .ok (.iconst 4, 1) := by decide +kernel
theorem dX6_wall_133 : decode cX6_wall 133 = .ok (.aload_n 0, 1) := by decide +kernel
theorem dX6_wall_134 : decode cX6_wall 134 = .ok (.getfield 49, 3) := by decide +kernel
theorem dX6_wall_137 : decode cX6_wall 137 = .ok (.imul, 1) := by decide +kernel
theorem dX6_wall_138 : decode cX6_wall 138 = .ok (.iload_n 1, 1) := by decide +kernel
theorem dX6_wall_139 : decode cX6_wall 139 = .ok (.iastore, 1) := by decide +kernel
theorem dX6_wall_140 : decode cX6_wall 140 = .ok (.aload_n 0, 1) := by decide +kernel
theorem dX6_wall_141 : decode cX6_wall 141 = .ok (.getfield 9, 3) := by decide +kernel
theorem dX6_wall_144 : decode cX6_wall 144 = .ok (.iconst 4, 1) := by decide +kernel
theorem dX6_wall_145 : decode cX6_wall 145 = .ok (.aload_n 0, 1) := by decide +kernel
theorem dX6_wall_146 : decode cX6_wall 146 = .ok (.getfield 49, 3) := by decide +kernel
theorem dX6_wall_149 : decode cX6_wall 149 = .ok (.imul, 1) := by decide +kernel
theorem dX6_wall_150 : decode cX6_wall 150 = .ok (.iconst 1, 1) := by decide +kernel
theorem dX6_wall_151 : decode cX6_wall 151 = .ok (.iadd, 1) := by decide +kernel
theorem dX6_wall_152 : decode cX6_wall 152 = .ok (.iload_n 2, 1) := by decide +kernel
theorem dX6_wall_153 : decode cX6_wall 153 = .ok (.iastore, 1) := by decide +kernel
theorem dX6_wall_154 : decode cX6_wall 154 = .ok (.aload_n 0, 1) := by decide +kernel
theorem dX6_wall_155 : decode cX6_wall 155 = .ok (.getfield 9, 3) := by decide +kernel
theorem dX6_wall_158 : decode cX6_wall 158 = .ok (.iconst 4, 1) := by decide +kernel
theorem dX6_wall_159 : decode cX6_wall 159 = .ok (.aload_n 0, 1) := by decide +kernel
theorem dX6_wall_160 : decode cX6_wall 160 = .ok (.getfield 49, 3) := by decide +kernel
theorem dX6_wall_163 : decode cX6_wall 163 = .ok (.imul, 1) := by decide +kernel
theorem dX6_wall_164 : decode cX6_wall 164 = .ok (.iconst 2, 1) := by decide +kernel
theorem dX6_wall_165 : decode cX6_wall 165 = .ok (.iadd, 1) := by decide +kernel
theorem dX6_wall_166 : decode cX6_wall 166 = .ok (.iload_n 3, 1) := by decide +kernel
theorem dX6_wall_167 : decode cX6_wall 167 = .ok (.iastore, 1) := by decide +kernel
theorem dX6_wall_168 : decode cX6_wall 168 = .ok (.aload_n 0, 1) := by decide +kernel
theorem dX6_wall_169 : decode cX6_wall 169 = .ok (.getfield 9, 3) := by decide +kernel
theorem dX6_wall_172 : decode cX6_wall 172 = .ok (.iconst 4, 1) := by decide +kernel
theorem dX6_wall_173 : decode cX6_wall 173 = .ok (.aload_n 0, 1) := by decide +kernel
theorem dX6_wall_174 : decode cX6_wall 174 = .ok (.getfield 49, 3) := by decide +kernel
theorem dX6_wall_177 : decode cX6_wall 177 = .ok (.imul, 1) := by decide +kernel
theorem dX6_wall_178 : decode cX6_wall 178 = .ok (.iconst 3, 1) := by decide +kernel
theorem dX6_wall_179 : decode cX6_wall 179 = .ok (.iadd, 1) := by decide +kernel
theorem dX6_wall_180 : decode cX6_wall 180 = .ok (.iload 4, 2) := by decide +kernel
theorem dX6_wall_182 : decode cX6_wall 182 = .ok (.iastore, 1) := by decide +kernel
theorem dX6_wall_183 : decode cX6_wall 183 = .ok (.aload_n 0, 1) := by decide +kernel
theorem dX6_wall_184 : decode cX6_wall 184 = .ok (.dup, 1) := by decide +kernel
theorem dX6_wall_185 : decode cX6_wall 185 = .ok (.getfield 49, 3) := by decide +kernel
theorem dX6_wall_188 : decode cX6_wall 188 = .ok (.iconst 1, 1) := by decide +kernel
theorem dX6_wall_189 : decode cX6_wall 189 = .ok (.iadd, 1) := by decide +kernel
theorem dX6_wall_190 : decode cX6_wall 190 = .ok (.putfield 49, 3) := by decide +kernel
theorem dX6_wall_193 : decode cX6_wall 193 = .ok (.aload_n 0, 1) := by decide +kernel
theorem dX6_wall_194 : decode cX6_wall 194 = .ok (.iconst 1, 1) := by decide +kernel
theorem dX6_wall_195 : decode cX6_wall 195 = .ok (.putfield 17, 3) := by decide +kernel
theorem dX6_wall_198 : decode cX6_wall 198 = .ok (.aload_n 0, 1) := by decide +kernel
theorem dX6_wall_199 : decode cX6_wall 199 = .ok (.getfield 49, 3) := by decide +kernel
theorem dX6_wall_202 : decode cX6_wall 202 = .ok (.iconst 1, 1) := by decide +kernel
theorem dX6_wall_203 : decode cX6_wall 203 = .ok (.isub, 1) := by decide +kernel
theorem dX6_wall_204 : decode cX6_wall 204 = .ok (.ireturn, 1) := by decide +kernel
set_option maxRecDepth 20000 in
theorem ggX6_take_X6_in : GoodIn wsX6_take wsX6_in := goodIn_r _ [7] (by decide +kernel) (by decide +kernel)
set_option maxRecDepth 20000 in
theorem gX6_take_X6_in : GoodIn wsX6_take (va_wsS RX6 45 yX6_in wsX6_in) := goodIn_app (goodIn_of _ (by decide +kernel)) ggX6_take_X6_in
theorem dX6_take_0 : decode cX6_take 0 = .ok (.iload_n 1, 1) := by decide +kernel
theorem dX6_take_1 : decode cX6_take 1 = .ok (.iconst 0, 1) := by decide +kernel
theorem dX6_take_2 : decode cX6_take 2 = .ok (.aload_n 0, 1) := by decide +kernel
theorem dX6_take_3 : decode cX6_take 3 = .ok (.getfield 49, 3) := by decide +kernel
theorem dX6_take_6 : decode cX6_take 6 = .ok (.iconst 1, 1) := by decide +kernel
theorem dX6_take_7 : decode cX6_take 7 = .ok (.isub, 1) := by decide +kernel
theorem dX6_take_8 : decode cX6_take 8 = .ok (.invokestatic 45, 3) := by decide +kernel
theorem dX6_take_11 : decode cX6_take 11 = .ok (.ifCond .ne 5, 3) := by decide +kernel
theorem dX6_take_14 : decode cX6_take 14 = .ok (.iconst 0, 1) := by decide +kernel
theorem dX6_take_15 : decode cX6_take 15 = .ok (.ireturn, 1) := by decide +kernel
theorem dX6_take_16 : decode cX6_take 16 = .ok (.iconst 4, 1) := by decide +kernel
theorem dX6_take_17 : decode cX6_take 17 = .ok (.iload_n 1, 1) := by decide +kernel
theorem dX6_take_18 : decode cX6_take 18 = .ok (.imul, 1) := by decide +kernel
theorem dX6_take_19 : decode cX6_take 19 = .ok (.istore_n 2, 1) := by decide +kernel
theorem dX6_take_20 : decode cX6_take 20 = .ok (.iload_n 2, 1) := by decide +kernel
theorem dX6_take_21 : decode cX6_take 21 = .ok (.iconst 4, 1) := by decide +kernel
theorem dX6_take_22 : decode cX6_take 22 = .ok (.iadd, 1) := by decide +kernel
theorem dX6_take_23 : decode cX6_take 23 = .ok (.iconst 4, 1) := by decide +kernel
theorem dX6_take_24 : decode cX6_take 24 = .ok (.aload_n 0, 1) := by decide +kernel
theorem dX6_take_25 : decode cX6_take 25 = .ok (.getfield 49, 3) := by decide +kernel
theorem dX6_take_28 : decode cX6_take 28 = .ok (.imul, 1) := by decide +kernel
theorem dX6_take_29 : decode cX6_take 29 = .ok (.if_icmp .ge 23, 3) := by decide +kernel
theorem dX6_take_32 : decode cX6_take 32 = .ok (.aload_n 0, 1) := by decide +kernel
theorem dX6_take_33 : decode cX6_take 33 = .ok (.getfield 9, 3) := by decide +kernel
theorem dX6_take_36 : decode cX6_take 36 = .ok (.iload_n 2, 1) := by decide +kernel
theorem dX6_take_37 : decode cX6_take 37 = .ok (.aload_n 0, 1) := by decide +kernel
theorem dX6_take_38 : decode cX6_take 38 = .ok (.getfield 9, 3) := by decide +kernel
theorem dX6_take_41 : decode cX6_take 41 = .ok (.iload_n 2, 1) := by decide +kernel
theorem dX6_take_42 : decode cX6_take 42 = .ok (.iconst 4, 1) := by decide +kernel
theorem dX6_take_43 : decode cX6_take 43 = .ok (.iadd, 1) := by decide +kernel
theorem dX6_take_44 : decode cX6_take 44 = .ok (.iaload, 1) := by decide +kernel
theorem dX6_take_45 : decode cX6_take 45 = .ok (.iastore, 1) := by decide +kernel
theorem dX6_take_46 : decode cX6_take 46 = .ok (.iinc 2 1, 3) := by decide +kernel
theorem dX6_take_49 : decode cX6_take 49 = .ok (.goto (-29), 3) := by decide +kernel
theorem dX6_take_52 : decode cX6_take 52 = .ok (.aload_n 0, 1) := by decide +kernel
theorem dX6_take_53 : decode cX6_take 53 = .ok (.dup, 1) := by decide +kernel
theorem dX6_take_54 : decode cX6_take 54 = .ok (.getfield 49, 3) := by decide +kernel
theorem dX6_take_57 : decode cX6_take 57 = .ok (.iconst 1, 1) := by decide +kernel
theorem dX6_take_58 : decode cX6_take 58 = .ok (.isub, 1) := by decide +kernel
theorem dX6_take_59 : decode cX6_take 59 = .ok (.putfield 49, 3) := by decide +kernel
theorem dX6_take_62 : decode cX6_take 62 = .ok (.aload_n 0, 1) := by decide +kernel
theorem dX6_take_63 : decode cX6_take 63 = .ok (.iconst 1, 1) := by decide +kernel
theorem dX6_take_64 : decode cX6_take 64 = .ok (.putfield 17, 3) := by decide +kernel
theorem dX6_take_67 : decode cX6_take 67 = .ok (.iconst 1, 1) := by decide +kernel
theorem dX6_take_68 : decode cX6_take 68 = .ok (.ireturn, 1) := by decide +kernel
set_option maxRecDepth 20000 in
theorem ggX6_told_X6_in : GoodIn wsX6_told wsX6_in := goodIn_r _ [5] (by decide +kernel) (by decide +kernel)
set_option maxRecDepth 20000 in
theorem gX6_told_X6_in : GoodIn wsX6_told (va_wsS RX6 45 yX6_in wsX6_in) := goodIn_app (goodIn_of _ (by decide +kernel)) ggX6_told_X6_in
set_option maxRecDepth 20000 in
theorem ggX6_told_X6_at : GoodIn wsX6_told wsX6_at := goodIn_r _ [9, 10, 11, 12, 13, 14, 15, 16, 17, 18, 19, 20, 21, 22] (by decide +kernel) (by decide +kernel)
set_option maxRecDepth 20000 in
theorem gX6_told_X6_at : GoodIn wsX6_told (wsV RX6 41 RX6 yX6_at wsX6_at) := goodIn_app (goodIn_of _ (by decide +kernel)) ggX6_told_X6_at
theorem dX6_told_0 : decode cX6_told 0 = .ok (.iload_n 1, 1) := by decide +kernel
theorem dX6_told_1 : decode cX6_told 1 = .ok (.iconst 0, 1) := by decide +kernel
theorem dX6_told_2 : decode cX6_told 2 = .ok (.aload_n 0, 1) := by decide +kernel
theorem dX6_told_3 : decode cX6_told 3 = .ok (.getfield 49, 3) := by decide +kernel
theorem dX6_told_6 : decode cX6_told 6 = .ok (.iconst 1, 1) := by decide +kernel
end
section
theorem dX6_told_7 : decode cX6_told 7 = .ok (.isub, 1) := by decide +kernel
theorem dX6_told_8 : decode cX6_told 8 = .ok (.invokestatic 45, 3) := by decide +kernel
theorem dX6_told_11 : decode cX6_told 11 = .ok (.ifCond .eq 21, 3) := by decide +kernel
theorem dX6_told_14 : decode cX6_told 14 = .ok (.iload_n 2, 1) := by decide +kernel
theorem dX6_told_15 : decode cX6_told 15 = .ok (.iconst 0, 1) := by decide +kernel
theorem dX6_told_16 : decode cX6_told 16 = .ok (.iconst 3, 1) := by decide +kernel
theorem dX6_told_17 : decode cX6_told 17 = .ok (.invokestatic 45, 3) := by decide +kernel
theorem dX6_told_20 : decode cX6_told 20 = .ok (.ifCond .eq 12, 3) := by decide +kernel
theorem dX6_told_23 : decode cX6_told 23 = .ok (.aload_n 0, 1) := by decide +kernel
theorem dX6_told_24 : decode cX6_told 24 = .ok (.iload_n 1, 1) := by decide +kernel
theorem dX6_told_25 : decode cX6_told 25 = .ok (.iload_n 2, 1) := by decide +kernel
theorem dX6_told_26 : decode cX6_told 26 = .ok (.invokevirtual 41, 3) := by decide +kernel
theorem dX6_told_29 : decode cX6_told 29 = .ok (.goto 4, 3) := by decide +kernel
theorem dX6_told_32 : decode cX6_told 32 = .ok (.iconst (-1), 1) := by decide +kernel
theorem dX6_told_33 : decode cX6_told 33 = .ok (.ireturn, 1) := by decide +kernel
theorem dX6_power_0 : decode cX6_power 0 = .ok (.iconst 1, 1) := by decide +kernel
theorem dX6_power_1 : decode cX6_power 1 = .ok (.istore_n 1, 1) := by decide +kernel
theorem dX6_power_2 : decode cX6_power 2 = .ok (.iconst 0, 1) := by decide +kernel
theorem dX6_power_3 : decode cX6_power 3 = .ok (.istore_n 2, 1) := by decide +kernel
theorem dX6_power_4 : decode cX6_power 4 = .ok (.iload_n 2, 1) := by decide +kernel
theorem dX6_power_5 : decode cX6_power 5 = .ok (.iload_n 0, 1) := by decide +kernel
theorem dX6_power_6 : decode cX6_power 6 = .ok (.if_icmp .ge 13, 3) := by decide +kernel
theorem dX6_power_9 : decode cX6_power 9 = .ok (.iload_n 1, 1) := by decide +kernel
theorem dX6_power_10 : decode cX6_power 10 = .ok (.iconst 3, 1) := by decide +kernel
theorem dX6_power_11 : decode cX6_power 11 = .ok (.imul, 1) := by decide +kernel
theorem dX6_power_12 : decode cX6_power 12 = .ok (.istore_n 1, 1) := by decide +kernel
theorem dX6_power_13 : decode cX6_power 13 = .ok (.iinc 2 1, 3) := by decide +kernel
theorem dX6_power_16 : decode cX6_power 16 = .ok (.goto (-12), 3) := by decide +kernel
theorem dX6_power_19 : decode cX6_power 19 = .ok (.iload_n 1, 1) := by decide +kernel
theorem dX6_power_20 : decode cX6_power 20 = .ok (.ireturn, 1) := by decide +kernel
set_option maxRecDepth 20000 in
theorem ggX6_sign_X6_power : GoodIn wsX6_sign wsX6_power := goodIn_r _ [4] (by decide +kernel) (by decide +kernel)
set_option maxRecDepth 20000 in
theorem gX6_sign_X6_power : GoodIn wsX6_sign (va_wsS RX6 56 yX6_power wsX6_power) := goodIn_app (goodIn_of _ (by decide +kernel)) ggX6_sign_X6_power
theorem dX6_sign_0 : decode cX6_sign 0 = .ok (.iload_n 0, 1) := by decide +kernel
theorem dX6_sign_1 : decode cX6_sign 1 = .ok (.iload_n 1, 1) := by decide +kernel
theorem dX6_sign_2 : decode cX6_sign 2 = .ok (.invokestatic 56, 3) := by decide +kernel
theorem dX6_sign_5 : decode cX6_sign 5 = .ok (.idiv, 1) := by decide +kernel
theorem dX6_sign_6 : decode cX6_sign 6 = .ok (.iconst 3, 1) := by decide +kernel
theorem dX6_sign_7 : decode cX6_sign 7 = .ok (.irem, 1) := by decide +kernel
theorem dX6_sign_8 : decode cX6_sign 8 = .ok (.ireturn, 1) := by decide +kernel
set_option maxRecDepth 20000 in
theorem ggX6_row_X6_in : GoodIn wsX6_row wsX6_in := goodIn_r _ [9] (by decide +kernel) (by decide +kernel)
set_option maxRecDepth 20000 in
theorem gX6_row_X6_in : GoodIn wsX6_row (va_wsS RX6 45 yX6_in wsX6_in) := goodIn_app (goodIn_of _ (by decide +kernel)) ggX6_row_X6_in
set_option maxRecDepth 20000 in
theorem ggX6_row_X6_at : GoodIn wsX6_row wsX6_at := goodIn_r _ [13, 14, 18, 19, 20, 21, 22, 23, 24, 25, 26, 27, 28, 29] (by decide +kernel) (by decide +kernel)
set_option maxRecDepth 20000 in
theorem gX6_row_X6_at : GoodIn wsX6_row (wsV RX6 41 RX6 yX6_at wsX6_at) := goodIn_app (goodIn_of _ (by decide +kernel)) ggX6_row_X6_at
set_option maxRecDepth 20000 in
theorem ggX6_row_X6_power : GoodIn wsX6_row wsX6_power := goodIn_r _ [17] (by decide +kernel) (by decide +kernel)
set_option maxRecDepth 20000 in
theorem gX6_row_X6_power : GoodIn wsX6_row (va_wsS RX6 56 yX6_power wsX6_power) := goodIn_app (goodIn_of _ (by decide +kernel)) ggX6_row_X6_power
theorem dX6_row_0 : decode cX6_row 0 = .ok (.iconst 3, 1) := by decide +kernel
theorem dX6_row_1 : decode cX6_row 1 = .ok (.newarray .int, 2) := by decide +kernel
theorem dX6_row_3 : decode cX6_row 3 = .ok (.dup, 1) := by decide +kernel
theorem dX6_row_4 : decode cX6_row 4 = .ok (.iconst 0, 1) := by decide +kernel
theorem dX6_row_5 : decode cX6_row 5 = .ok (.iload_n 1, 1) := by decide +kernel
theorem dX6_row_6 : decode cX6_row 6 = .ok (.iastore, 1) := by decide +kernel
theorem dX6_row_7 : decode cX6_row 7 = .ok (.dup, 1) := by decide +kernel
theorem dX6_row_8 : decode cX6_row 8 = .ok (.iconst 1, 1) := by decide +kernel
theorem dX6_row_9 : decode cX6_row 9 = .ok (.aload_n 0, 1) := by decide +kernel
theorem dX6_row_10 : decode cX6_row 10 = .ok (.getfield 37, 3) := by decide +kernel
theorem dX6_row_13 : decode cX6_row 13 = .ok (.iconst 1, 1) := by decide +kernel
theorem dX6_row_14 : decode cX6_row 14 = .ok (.if_icmp .le 7, 3) := by decide +kernel
theorem dX6_row_17 : decode cX6_row 17 = .ok (.iload_n 2, 1) := by decide +kernel
theorem dX6_row_18 : decode cX6_row 18 = .ok (.goto 4, 3) := by decide +kernel
theorem dX6_row_21 : decode cX6_row 21 = .ok (.iconst 0, 1) := by decide +kernel
theorem dX6_row_22 : decode cX6_row 22 = .ok (.iastore, 1) := by decide +kernel
theorem dX6_row_23 : decode cX6_row 23 = .ok (.dup, 1) := by decide +kernel
theorem dX6_row_24 : decode cX6_row 24 = .ok (.iconst 2, 1) := by decide +kernel
theorem dX6_row_25 : decode cX6_row 25 = .ok (.aload_n 0, 1) := by decide +kernel
theorem dX6_row_26 : decode cX6_row 26 = .ok (.getfield 37, 3) := by decide +kernel
theorem dX6_row_29 : decode cX6_row 29 = .ok (.iconst 2, 1) := by decide +kernel
theorem dX6_row_30 : decode cX6_row 30 = .ok (.if_icmp .le 7, 3) := by decide +kernel
theorem dX6_row_33 : decode cX6_row 33 = .ok (.iload_n 3, 1) := by decide +kernel
theorem dX6_row_34 : decode cX6_row 34 = .ok (.goto 4, 3) := by decide +kernel
theorem dX6_row_37 : decode cX6_row 37 = .ok (.iconst 0, 1) := by decide +kernel
theorem dX6_row_38 : decode cX6_row 38 = .ok (.iastore, 1) := by decide +kernel
theorem dX6_row_39 : decode cX6_row 39 = .ok (.astore 4, 2) := by decide +kernel
theorem dX6_row_41 : decode cX6_row 41 = .ok (.iconst 0, 1) := by decide +kernel
theorem dX6_row_42 : decode cX6_row 42 = .ok (.istore 5, 2) := by decide +kernel
theorem dX6_row_44 : decode cX6_row 44 = .ok (.iload 5, 2) := by decide +kernel
theorem dX6_row_46 : decode cX6_row 46 = .ok (.iconst 3, 1) := by decide +kernel
theorem dX6_row_47 : decode cX6_row 47 = .ok (.if_icmp .ge 26, 3) := by decide +kernel
theorem dX6_row_50 : decode cX6_row 50 = .ok (.aload 4, 2) := by decide +kernel
theorem dX6_row_52 : decode cX6_row 52 = .ok (.iload 5, 2) := by decide +kernel
theorem dX6_row_54 : decode cX6_row 54 = .ok (.iaload, 1) := by decide +kernel
theorem dX6_row_55 : decode cX6_row 55 = .ok (.ldc 60, 2) := by decide +kernel
theorem dX6_row_57 : decode cX6_row 57 = .ok (.ldc 61, 2) := by decide +kernel
theorem dX6_row_59 : decode cX6_row 59 = .ok (.invokestatic 45, 3) := by decide +kernel
theorem dX6_row_62 : decode cX6_row 62 = .ok (.ifCond .ne 5, 3) := by decide +kernel
theorem dX6_row_65 : decode cX6_row 65 = .ok (.iconst (-1), 1) := by decide +kernel
theorem dX6_row_66 : decode cX6_row 66 = .ok (.ireturn, 1) := by decide +kernel
theorem dX6_row_67 : decode cX6_row 67 = .ok (.iinc 5 1, 3) := by decide +kernel
theorem dX6_row_70 : decode cX6_row 70 = .ok (.goto (-26), 3) := by decide +kernel
theorem dX6_row_73 : decode cX6_row 73 = .ok (.iconst 0, 1) := by decide +kernel
theorem dX6_row_74 : decode cX6_row 74 = .ok (.istore 5, 2) := by decide +kernel
theorem dX6_row_76 : decode cX6_row 76 = .ok (.iconst 0, 1) := by decide +kernel
theorem dX6_row_77 : decode cX6_row 77 = .ok (.istore 6, 2) := by decide +kernel
theorem dX6_row_79 : decode cX6_row 79 = .ok (.iload 6, 2) := by decide +kernel
theorem dX6_row_81 : decode cX6_row 81 = .ok (.aload_n 0, 1) := by decide +kernel
theorem dX6_row_82 : decode cX6_row 82 = .ok (.getfield 49, 3) := by decide +kernel
theorem dX6_row_85 : decode cX6_row 85 = .ok (.if_icmp .ge 93, 3) := by decide +kernel
theorem dX6_row_88 : decode cX6_row 88 = .ok (.aload_n 0, 1) := by decide +kernel
theorem dX6_row_89 : decode cX6_row 89 = .ok (.iload 6, 2) := by decide +kernel
theorem dX6_row_91 : decode cX6_row 91 = .ok (.iconst 0, 1) := by decide +kernel
theorem dX6_row_92 : decode cX6_row 92 = .ok (.invokevirtual 41, 3) := by decide +kernel
theorem dX6_row_95 : decode cX6_row 95 = .ok (.aload 4, 2) := by decide +kernel
theorem dX6_row_97 : decode cX6_row 97 = .ok (.iconst 0, 1) := by decide +kernel
theorem dX6_row_98 : decode cX6_row 98 = .ok (.iaload, 1) := by decide +kernel
theorem dX6_row_99 : decode cX6_row 99 = .ok (.imul, 1) := by decide +kernel
theorem dX6_row_100 : decode cX6_row 100 = .ok (.aload_n 0, 1) := by decide +kernel
theorem dX6_row_101 : decode cX6_row 101 = .ok (.iload 6, 2) := by decide +kernel
theorem dX6_row_103 : decode cX6_row 103 = .ok (.iconst 1, 1) := by decide +kernel
theorem dX6_row_104 : decode cX6_row 104 = .ok (.invokevirtual 41, 3) := by decide +kernel
theorem dX6_row_107 : decode cX6_row 107 = .ok (.aload 4, 2) := by decide +kernel
theorem dX6_row_109 : decode cX6_row 109 = .ok (.iconst 1, 1) := by decide +kernel
theorem dX6_row_110 : decode cX6_row 110 = .ok (.iaload, 1) := by decide +kernel
theorem dX6_row_111 : decode cX6_row 111 = .ok (.imul, 1) := by decide +kernel
theorem dX6_row_112 : decode cX6_row 112 = .ok (.iadd, 1) := by decide +kernel
theorem dX6_row_113 : decode cX6_row 113 = .ok (.aload_n 0, 1) := by decide +kernel
theorem dX6_row_114 : decode cX6_row 114 = .ok (.iload 6, 2) := by decide +kernel
theorem dX6_row_116 : decode cX6_row 116 = .ok (.iconst 2, 1) := by decide +kernel
theorem dX6_row_117 : decode cX6_row 117 = .ok (.invokevirtual 41, 3) := by decide +kernel
theorem dX6_row_120 : decode cX6_row 120 = .ok (.aload 4, 2) := by decide +kernel
theorem dX6_row_122 : decode cX6_row 122 = .ok (.iconst 2, 1) := by decide +kernel
theorem dX6_row_123 : decode cX6_row 123 = .ok (.iaload, 1) := by decide +kernel
theorem dX6_row_124 : decode cX6_row 124 = .ok (.imul, 1) := by decide +kernel
theorem dX6_row_125 : decode cX6_row 125 = .ok (.iadd, 1) := by decide +kernel
theorem dX6_row_126 : decode cX6_row 126 = .ok (.istore 7, 2) := by decide +kernel
theorem dX6_row_128 : decode cX6_row 128 = .ok (.iload 5, 2) := by decide +kernel
theorem dX6_row_130 : decode cX6_row 130 = .ok (.iload 6, 2) := by decide +kernel
theorem dX6_row_132 : decode cX6_row 132 = .ok (.invokestatic 56, 3) := by decide +kernel
theorem dX6_row_135 : decode cX6_row 135 = .ok (.iload 7, 2) := by decide +kernel
theorem dX6_row_137 : decode cX6_row 137 = .ok (.aload_n 0, 1) := by decide +kernel
theorem dX6_row_138 : decode cX6_row 138 = .ok (.iload 6, 2) := by decide +kernel
theorem dX6_row_140 : decode cX6_row 140 = .ok (.iconst 3, 1) := by decide +kernel
theorem dX6_row_141 : decode cX6_row 141 = .ok (.invokevirtual 41, 3) := by decide +kernel
theorem dX6_row_144 : decode cX6_row 144 = .ok (.if_icmp .ge 7, 3) := by decide +kernel
theorem dX6_row_147 : decode cX6_row 147 = .ok (.iconst 0, 1) := by decide +kernel
theorem dX6_row_148 : decode cX6_row 148 = .ok (.goto 20, 3) := by decide +kernel
theorem dX6_row_151 : decode cX6_row 151 = .ok (.iload 7, 2) := by decide +kernel
theorem dX6_row_153 : decode cX6_row 153 = .ok (.aload_n 0, 1) := by decide +kernel
theorem dX6_row_154 : decode cX6_row 154 = .ok (.iload 6, 2) := by decide +kernel
theorem dX6_row_156 : decode cX6_row 156 = .ok (.iconst 3, 1) := by decide +kernel
theorem dX6_row_157 : decode cX6_row 157 = .ok (.invokevirtual 41, 3) := by decide +kernel
theorem dX6_row_160 : decode cX6_row 160 = .ok (.if_icmp .ne 7, 3) := by decide +kernel
theorem dX6_row_163 : decode cX6_row 163 = .ok (.iconst 1, 1) := by decide +kernel
theorem dX6_row_164 : decode cX6_row 164 = .ok (.goto 4, 3) := by decide +kernel
theorem dX6_row_167 : decode cX6_row 167 = .ok (.iconst 2, 1) := by decide +kernel
theorem dX6_row_168 : decode cX6_row 168 = .ok (.imul, 1) := by decide +kernel
theorem dX6_row_169 : decode cX6_row 169 = .ok (.iadd, 1) := by decide +kernel
theorem dX6_row_170 : decode cX6_row 170 = .ok (.istore 5, 2) := by decide +kernel
theorem dX6_row_172 : decode cX6_row 172 = .ok (.iinc 6 1, 3) := by decide +kernel
theorem dX6_row_175 : decode cX6_row 175 = .ok (.goto (-96), 3) := by decide +kernel
theorem dX6_row_178 : decode cX6_row 178 = .ok (.iload 5, 2) := by decide +kernel
theorem dX6_row_180 : decode cX6_row 180 = .ok (.ireturn, 1) := by decide +kernel
theorem dX6_begins_0 : decode cX6_begins 0 = .ok (.aload_n 0, 1) := by decide +kernel
theorem dX6_begins_1 : decode cX6_begins 1 = .ok (.iconst 0, 1) := by decide +kernel
theorem dX6_begins_2 : decode cX6_begins 2 = .ok (.putfield 62, 3) := by decide +kernel
theorem dX6_begins_5 : decode cX6_begins 5 = .ok (.return_, 1) := by decide +kernel
set_option maxRecDepth 20000 in
theorem ggX6_adds_X6_at : GoodIn wsX6_adds wsX6_at := goodIn_r _ [8, 9, 10, 11, 12, 13, 14, 15, 16, 17, 18, 19, 20, 21] (by decide +kernel) (by decide +kernel)
set_option maxRecDepth 20000 in
theorem gX6_adds_X6_at : GoodIn wsX6_adds (wsV RX6 41 RX6 yX6_at wsX6_at) := goodIn_app (goodIn_of _ (by decide +kernel)) ggX6_adds_X6_at
theorem dX6_adds_0 : decode cX6_adds 0 = .ok (.iconst 0, 1) := by decide +kernel
theorem dX6_adds_1 : decode cX6_adds 1 = .ok (.istore_n 3, 1) := by decide +kernel
theorem dX6_adds_2 : decode cX6_adds 2 = .ok (.iload_n 3, 1) := by decide +kernel
theorem dX6_adds_3 : decode cX6_adds 3 = .ok (.iconst 4, 1) := by decide +kernel
theorem dX6_adds_4 : decode cX6_adds 4 = .ok (.if_icmp .ge 45, 3) := by decide +kernel
theorem dX6_adds_7 : decode cX6_adds 7 = .ok (.aload_n 0, 1) := by decide +kernel
theorem dX6_adds_8 : decode cX6_adds 8 = .ok (.getfield 21, 3) := by decide +kernel
theorem dX6_adds_11 : decode cX6_adds 11 = .ok (.iconst 4, 1) := by decide +kernel
theorem dX6_adds_12 : decode cX6_adds 12 = .ok (.aload_n 0, 1) := by decide +kernel
theorem dX6_adds_13 : decode cX6_adds 13 = .ok (.getfield 62, 3) := by decide +kernel
theorem dX6_adds_16 : decode cX6_adds 16 = .ok (.imul, 1) := by decide +kernel
theorem dX6_adds_17 : decode cX6_adds 17 = .ok (.iload_n 3, 1) := by decide +kernel
theorem dX6_adds_18 : decode cX6_adds 18 = .ok (.iadd, 1) := by decide +kernel
theorem dX6_adds_19 : decode cX6_adds 19 = .ok (.iload_n 2, 1) := by decide +kernel
theorem dX6_adds_20 : decode cX6_adds 20 = .ok (.iconst 2, 1) := by decide +kernel
theorem dX6_adds_21 : decode cX6_adds 21 = .ok (.if_icmp .ne 14, 3) := by decide +kernel
theorem dX6_adds_24 : decode cX6_adds 24 = .ok (.aload_n 0, 1) := by decide +kernel
theorem dX6_adds_25 : decode cX6_adds 25 = .ok (.iload_n 1, 1) := by decide +kernel
theorem dX6_adds_26 : decode cX6_adds 26 = .ok (.iload_n 3, 1) := by decide +kernel
theorem dX6_adds_27 : decode cX6_adds 27 = .ok (.invokevirtual 41, 3) := by decide +kernel
theorem dX6_adds_30 : decode cX6_adds 30 = .ok (.ineg, 1) := by decide +kernel
theorem dX6_adds_31 : decode cX6_adds 31 = .ok (.i2l, 1) := by decide +kernel
theorem dX6_adds_32 : decode cX6_adds 32 = .ok (.goto 10, 3) := by decide +kernel
theorem dX6_adds_35 : decode cX6_adds 35 = .ok (.aload_n 0, 1) := by decide +kernel
theorem dX6_adds_36 : decode cX6_adds 36 = .ok (.iload_n 1, 1) := by decide +kernel
theorem dX6_adds_37 : decode cX6_adds 37 = .ok (.iload_n 3, 1) := by decide +kernel
theorem dX6_adds_38 : decode cX6_adds 38 = .ok (.invokevirtual 41, 3) := by decide +kernel
theorem dX6_adds_41 : decode cX6_adds 41 = .ok (.i2l, 1) := by decide +kernel
theorem dX6_adds_42 : decode cX6_adds 42 = .ok (.lastore, 1) := by decide +kernel
theorem dX6_adds_43 : decode cX6_adds 43 = .ok (.iinc 3 1, 3) := by decide +kernel
theorem dX6_adds_46 : decode cX6_adds 46 = .ok (.goto (-44), 3) := by decide +kernel
theorem dX6_adds_49 : decode cX6_adds 49 = .ok (.aload_n 0, 1) := by decide +kernel
theorem dX6_adds_50 : decode cX6_adds 50 = .ok (.getfield 25, 3) := by decide +kernel
theorem dX6_adds_53 : decode cX6_adds 53 = .ok (.aload_n 0, 1) := by decide +kernel
theorem dX6_adds_54 : decode cX6_adds 54 = .ok (.getfield 62, 3) := by decide +kernel
theorem dX6_adds_57 : decode cX6_adds 57 = .ok (.iload_n 2, 1) := by decide +kernel
theorem dX6_adds_58 : decode cX6_adds 58 = .ok (.iconst 1, 1) := by decide +kernel
theorem dX6_adds_59 : decode cX6_adds 59 = .ok (.if_icmp .ne 7, 3) := by decide +kernel
theorem dX6_adds_62 : decode cX6_adds 62 = .ok (.iconst 1, 1) := by decide +kernel
theorem dX6_adds_63 : decode cX6_adds 63 = .ok (.goto 4, 3) := by decide +kernel
theorem dX6_adds_66 : decode cX6_adds 66 = .ok (.iconst 0, 1) := by decide +kernel
theorem dX6_adds_67 : decode cX6_adds 67 = .ok (.bastore, 1) := by decide +kernel
theorem dX6_adds_68 : decode cX6_adds 68 = .ok (.aload_n 0, 1) := by decide +kernel
theorem dX6_adds_69 : decode cX6_adds 69 = .ok (.dup, 1) := by decide +kernel
theorem dX6_adds_70 : decode cX6_adds 70 = .ok (.getfield 62, 3) := by decide +kernel
theorem dX6_adds_73 : decode cX6_adds 73 = .ok (.iconst 1, 1) := by decide +kernel
theorem dX6_adds_74 : decode cX6_adds 74 = .ok (.iadd, 1) := by decide +kernel
theorem dX6_adds_75 : decode cX6_adds 75 = .ok (.putfield 62, 3) := by decide +kernel
theorem dX6_adds_78 : decode cX6_adds 78 = .ok (.return_, 1) := by decide +kernel
theorem dX6_puts_0 : decode cX6_puts 0 = .ok (.iconst 0, 1) := by decide +kernel
theorem dX6_puts_1 : decode cX6_puts 1 = .ok (.istore 8, 2) := by decide +kernel
theorem dX6_puts_3 : decode cX6_puts 3 = .ok (.iload 8, 2) := by decide +kernel
theorem dX6_puts_5 : decode cX6_puts 5 = .ok (.iconst 4, 1) := by decide +kernel
theorem dX6_puts_6 : decode cX6_puts 6 = .ok (.if_icmp .ge 52, 3) := by decide +kernel
theorem dX6_puts_9 : decode cX6_puts 9 = .ok (.aload_n 0, 1) := by decide +kernel
theorem dX6_puts_10 : decode cX6_puts 10 = .ok (.getfield 28, 3) := by decide +kernel
theorem dX6_puts_13 : decode cX6_puts 13 = .ok (.iconst 4, 1) := by decide +kernel
theorem dX6_puts_14 : decode cX6_puts 14 = .ok (.aload_n 0, 1) := by decide +kernel
theorem dX6_puts_15 : decode cX6_puts 15 = .ok (.getfield 65, 3) := by decide +kernel
theorem dX6_puts_18 : decode cX6_puts 18 = .ok (.imul, 1) := by decide +kernel
theorem dX6_puts_19 : decode cX6_puts 19 = .ok (.iload 8, 2) := by decide +kernel
theorem dX6_puts_21 : decode cX6_puts 21 = .ok (.iadd, 1) := by decide +kernel
theorem dX6_puts_22 : decode cX6_puts 22 = .ok (.aload_n 0, 1) := by decide +kernel
theorem dX6_puts_23 : decode cX6_puts 23 = .ok (.getfield 21, 3) := by decide +kernel
theorem dX6_puts_26 : decode cX6_puts 26 = .ok (.iconst 4, 1) := by decide +kernel
theorem dX6_puts_27 : decode cX6_puts 27 = .ok (.iload_n 1, 1) := by decide +kernel
theorem dX6_puts_28 : decode cX6_puts 28 = .ok (.imul, 1) := by decide +kernel
theorem dX6_puts_29 : decode cX6_puts 29 = .ok (.iload 8, 2) := by decide +kernel
theorem dX6_puts_31 : decode cX6_puts 31 = .ok (.iadd, 1) := by decide +kernel
theorem dX6_puts_32 : decode cX6_puts 32 = .ok (.laload, 1) := by decide +kernel
theorem dX6_puts_33 : decode cX6_puts 33 = .ok (.lload_n 2, 1) := by decide +kernel
theorem dX6_puts_34 : decode cX6_puts 34 = .ok (.lmul, 1) := by decide +kernel
theorem dX6_puts_35 : decode cX6_puts 35 = .ok (.aload_n 0, 1) := by decide +kernel
theorem dX6_puts_36 : decode cX6_puts 36 = .ok (.getfield 21, 3) := by decide +kernel
theorem dX6_puts_39 : decode cX6_puts 39 = .ok (.iconst 4, 1) := by decide +kernel
theorem dX6_puts_40 : decode cX6_puts 40 = .ok (.iload 4, 2) := by decide +kernel
theorem dX6_puts_42 : decode cX6_puts 42 = .ok (.imul, 1) := by decide +kernel
theorem dX6_puts_43 : decode cX6_puts 43 = .ok (.iload 8, 2) := by decide +kernel
theorem dX6_puts_45 : decode cX6_puts 45 = .ok (.iadd, 1) := by decide +kernel
theorem dX6_puts_46 : decode cX6_puts 46 = .ok (.laload, 1) := by decide +kernel
theorem dX6_puts_47 : decode cX6_puts 47 = .ok (.lload 5, 2) := by decide +kernel
theorem dX6_puts_49 : decode cX6_puts 49 = .ok (.lmul, 1) := by decide +kernel
theorem dX6_puts_50 : decode cX6_puts 50 = .ok (.ladd, 1) := by decide +kernel
theorem dX6_puts_51 : decode cX6_puts 51 = .ok (.lastore, 1) := by decide +kernel
theorem dX6_puts_52 : decode cX6_puts 52 = .ok (.iinc 8 1, 3) := by decide +kernel
theorem dX6_puts_55 : decode cX6_puts 55 = .ok (.goto (-52), 3) := by decide +kernel
theorem dX6_puts_58 : decode cX6_puts 58 = .ok (.aload_n 0, 1) := by decide +kernel
theorem dX6_puts_59 : decode cX6_puts 59 = .ok (.getfield 31, 3) := by decide +kernel
theorem dX6_puts_62 : decode cX6_puts 62 = .ok (.aload_n 0, 1) := by decide +kernel
theorem dX6_puts_63 : decode cX6_puts 63 = .ok (.getfield 65, 3) := by decide +kernel
theorem dX6_puts_66 : decode cX6_puts 66 = .ok (.iload 7, 2) := by decide +kernel
theorem dX6_puts_68 : decode cX6_puts 68 = .ok (.bastore, 1) := by decide +kernel
theorem dX6_puts_69 : decode cX6_puts 69 = .ok (.aload_n 0, 1) := by decide +kernel
theorem dX6_puts_70 : decode cX6_puts 70 = .ok (.dup, 1) := by decide +kernel
theorem dX6_puts_71 : decode cX6_puts 71 = .ok (.getfield 65, 3) := by decide +kernel
theorem dX6_puts_74 : decode cX6_puts 74 = .ok (.iconst 1, 1) := by decide +kernel
theorem dX6_puts_75 : decode cX6_puts 75 = .ok (.iadd, 1) := by decide +kernel
theorem dX6_puts_76 : decode cX6_puts 76 = .ok (.putfield 65, 3) := by decide +kernel
theorem dX6_puts_79 : decode cX6_puts 79 = .ok (.return_, 1) := by decide +kernel
theorem dX6_size_0 : decode cX6_size 0 = .ok (.lload_n 0, 1) := by decide +kernel
theorem dX6_size_1 : decode cX6_size 1 = .ok (.lconst 0, 1) := by decide +kernel
theorem dX6_size_2 : decode cX6_size 2 = .ok (.lcmp, 1) := by decide +kernel
theorem dX6_size_3 : decode cX6_size 3 = .ok (.ifCond .ge 8, 3) := by decide +kernel
theorem dX6_size_6 : decode cX6_size 6 = .ok (.lload_n 0, 1) := by decide +kernel
theorem dX6_size_7 : decode cX6_size 7 = .ok (.lneg, 1) := by decide +kernel
theorem dX6_size_8 : decode cX6_size 8 = .ok (.goto 4, 3) := by decide +kernel
theorem dX6_size_11 : decode cX6_size 11 = .ok (.lload_n 0, 1) := by decide +kernel
theorem dX6_size_12 : decode cX6_size 12 = .ok (.lreturn, 1) := by decide +kernel
set_option maxRecDepth 20000 in
theorem ggX6_takesOut_X6_puts : GoodIn wsX6_takesOut wsX6_puts := goodIn_r _ [11, 5, 4, 3, 6, 15, 16, 17, 18, 19, 20, 21, 22, 23, 24, 25, 26] (by decide +kernel) (by decide +kernel)
set_option maxRecDepth 20000 in
theorem gX6_takesOut_X6_puts : GoodIn wsX6_takesOut (wsV RX6 68 RX6 yX6_puts wsX6_puts) := goodIn_app (goodIn_of _ (by decide +kernel)) ggX6_takesOut_X6_puts
set_option maxRecDepth 20000 in
theorem ggX6_takesOut_X6_size : GoodIn wsX6_takesOut wsX6_size := goodIn_r _ [14] (by decide +kernel) (by decide +kernel)
set_option maxRecDepth 20000 in
theorem gX6_takesOut_X6_size : GoodIn wsX6_takesOut (va_wsS RX6 72 yX6_size wsX6_size) := goodIn_app (goodIn_of _ (by decide +kernel)) ggX6_takesOut_X6_size
theorem dX6_takesOut_0 : decode cX6_takesOut 0 = .ok (.iconst (-1), 1) := by decide +kernel
theorem dX6_takesOut_1 : decode cX6_takesOut 1 = .ok (.istore_n 2, 1) := by decide +kernel
theorem dX6_takesOut_2 : decode cX6_takesOut 2 = .ok (.iconst 0, 1) := by decide +kernel
theorem dX6_takesOut_3 : decode cX6_takesOut 3 = .ok (.istore_n 3, 1) := by decide +kernel
theorem dX6_takesOut_4 : decode cX6_takesOut 4 = .ok (.iload_n 3, 1) := by decide +kernel
theorem dX6_takesOut_5 : decode cX6_takesOut 5 = .ok (.aload_n 0, 1) := by decide +kernel
theorem dX6_takesOut_6 : decode cX6_takesOut 6 = .ok (.getfield 62, 3) := by decide +kernel
theorem dX6_takesOut_9 : decode cX6_takesOut 9 = .ok (.if_icmp .ge 40, 3) := by decide +kernel
theorem dX6_takesOut_12 : decode cX6_takesOut 12 = .ok (.iload_n 2, 1) := by decide +kernel
theorem dX6_takesOut_13 : decode cX6_takesOut 13 = .ok (.iconst (-1), 1) := by decide +kernel
theorem dX6_takesOut_14 : decode cX6_takesOut 14 = .ok (.if_icmp .ne 35, 3) := by decide +kernel
theorem dX6_takesOut_17 : decode cX6_takesOut 17 = .ok (.aload_n 0, 1) := by decide +kernel
theorem dX6_takesOut_18 : decode cX6_takesOut 18 = .ok (.getfield 25, 3) := by decide +kernel
theorem dX6_takesOut_21 : decode cX6_takesOut 21 = .ok (.iload_n 3, 1) := by decide +kernel
theorem dX6_takesOut_22 : decode cX6_takesOut 22 = .ok (.baload, 1) := by decide +kernel
theorem dX6_takesOut_23 : decode cX6_takesOut 23 = .ok (.ifCond .eq 20, 3) := by decide +kernel
theorem dX6_takesOut_26 : decode cX6_takesOut 26 = .ok (.aload_n 0, 1) := by decide +kernel
theorem dX6_takesOut_27 : decode cX6_takesOut 27 = .ok (.getfield 21, 3) := by decide +kernel
theorem dX6_takesOut_30 : decode cX6_takesOut 30 = .ok (.iconst 4, 1) := by decide +kernel
theorem dX6_takesOut_31 : decode cX6_takesOut 31 = .ok (.iload_n 3, 1) := by decide +kernel
theorem dX6_takesOut_32 : decode cX6_takesOut 32 = .ok (.imul, 1) := by decide +kernel
theorem dX6_takesOut_33 : decode cX6_takesOut 33 = .ok (.iload_n 1, 1) := by decide +kernel
theorem dX6_takesOut_34 : decode cX6_takesOut 34 = .ok (.iadd, 1) := by decide +kernel
theorem dX6_takesOut_35 : decode cX6_takesOut 35 = .ok (.laload, 1) := by decide +kernel
theorem dX6_takesOut_36 : decode cX6_takesOut 36 = .ok (.lconst 0, 1) := by decide +kernel
theorem dX6_takesOut_37 : decode cX6_takesOut 37 = .ok (.lcmp, 1) := by decide +kernel
theorem dX6_takesOut_38 : decode cX6_takesOut 38 = .ok (.ifCond .eq 5, 3) := by decide +kernel
theorem dX6_takesOut_41 : decode cX6_takesOut 41 = .ok (.iload_n 3, 1) := by decide +kernel
theorem dX6_takesOut_42 : decode cX6_takesOut 42 = .ok (.istore_n 2, 1) := by decide +kernel
theorem dX6_takesOut_43 : decode cX6_takesOut 43 = .ok (.iinc 3 1, 3) := by decide +kernel
theorem dX6_takesOut_46 : decode cX6_takesOut 46 = .ok (.goto (-42), 3) := by decide +kernel
theorem dX6_takesOut_49 : decode cX6_takesOut 49 = .ok (.aload_n 0, 1) := by decide +kernel
theorem dX6_takesOut_50 : decode cX6_takesOut 50 = .ok (.iconst 0, 1) := by decide +kernel
theorem dX6_takesOut_51 : decode cX6_takesOut 51 = .ok (.putfield 65, 3) := by decide +kernel
theorem dX6_takesOut_54 : decode cX6_takesOut 54 = .ok (.iconst 0, 1) := by decide +kernel
theorem dX6_takesOut_55 : decode cX6_takesOut 55 = .ok (.istore_n 3, 1) := by decide +kernel
theorem dX6_takesOut_56 : decode cX6_takesOut 56 = .ok (.iload_n 3, 1) := by decide +kernel
theorem dX6_takesOut_57 : decode cX6_takesOut 57 = .ok (.aload_n 0, 1) := by decide +kernel
theorem dX6_takesOut_58 : decode cX6_takesOut 58 = .ok (.getfield 62, 3) := by decide +kernel
theorem dX6_takesOut_61 : decode cX6_takesOut 61 = .ok (.if_icmp .ge 168, 3) := by decide +kernel
theorem dX6_takesOut_64 : decode cX6_takesOut 64 = .ok (.aload_n 0, 1) := by decide +kernel
theorem dX6_takesOut_65 : decode cX6_takesOut 65 = .ok (.getfield 21, 3) := by decide +kernel
theorem dX6_takesOut_68 : decode cX6_takesOut 68 = .ok (.iconst 4, 1) := by decide +kernel
theorem dX6_takesOut_69 : decode cX6_takesOut 69 = .ok (.iload_n 3, 1) := by decide +kernel
theorem dX6_takesOut_70 : decode cX6_takesOut 70 = .ok (.imul, 1) := by decide +kernel
theorem dX6_takesOut_71 : decode cX6_takesOut 71 = .ok (.iload_n 1, 1) := by decide +kernel
theorem dX6_takesOut_72 : decode cX6_takesOut 72 = .ok (.iadd, 1) := by decide +kernel
theorem dX6_takesOut_73 : decode cX6_takesOut 73 = .ok (.laload, 1) := by decide +kernel
theorem dX6_takesOut_74 : decode cX6_takesOut 74 = .ok (.lstore 4, 2) := by decide +kernel
theorem dX6_takesOut_76 : decode cX6_takesOut 76 = .ok (.iload_n 3, 1) := by decide +kernel
theorem dX6_takesOut_77 : decode cX6_takesOut 77 = .ok (.iload_n 2, 1) := by decide +kernel
theorem dX6_takesOut_78 : decode cX6_takesOut 78 = .ok (.if_icmp .ne 6, 3) := by decide +kernel
theorem dX6_takesOut_81 : decode cX6_takesOut 81 = .ok (.goto 142, 3) := by decide +kernel
theorem dX6_takesOut_84 : decode cX6_takesOut 84 = .ok (.lload 4, 2) := by decide +kernel
theorem dX6_takesOut_86 : decode cX6_takesOut 86 = .ok (.lconst 0, 1) := by decide +kernel
theorem dX6_takesOut_87 : decode cX6_takesOut 87 = .ok (.lcmp, 1) := by decide +kernel
theorem dX6_takesOut_88 : decode cX6_takesOut 88 = .ok (.ifCond .ne 20, 3) := by decide +kernel
theorem dX6_takesOut_91 : decode cX6_takesOut 91 = .ok (.aload_n 0, 1) := by decide +kernel
theorem dX6_takesOut_92 : decode cX6_takesOut 92 = .ok (.iload_n 3, 1) := by decide +kernel
theorem dX6_takesOut_93 : decode cX6_takesOut 93 = .ok (.lconst 1, 1) := by decide +kernel
theorem dX6_takesOut_94 : decode cX6_takesOut 94 = .ok (.iload_n 3, 1) := by decide +kernel
theorem dX6_takesOut_95 : decode cX6_takesOut 95 = .ok (.lconst 0, 1) := by decide +kernel
theorem dX6_takesOut_96 : decode cX6_takesOut 96 = .ok (.aload_n 0, 1) := by decide +kernel
theorem dX6_takesOut_97 : decode cX6_takesOut 97 = .ok (.getfield 25, 3) := by decide +kernel
theorem dX6_takesOut_100 : decode cX6_takesOut 100 = .ok (.iload_n 3, 1) := by decide +kernel
theorem dX6_takesOut_101 : decode cX6_takesOut 101 = .ok (.baload, 1) := by decide +kernel
theorem dX6_takesOut_102 : decode cX6_takesOut 102 = .ok (.invokevirtual 68, 3) := by decide +kernel
theorem dX6_takesOut_105 : decode cX6_takesOut 105 = .ok (.goto 118, 3) := by decide +kernel
theorem dX6_takesOut_108 : decode cX6_takesOut 108 = .ok (.iload_n 2, 1) := by decide +kernel
theorem dX6_takesOut_109 : decode cX6_takesOut 109 = .ok (.iconst (-1), 1) := by decide +kernel
theorem dX6_takesOut_110 : decode cX6_takesOut 110 = .ok (.if_icmp .eq 50, 3) := by decide +kernel
theorem dX6_takesOut_113 : decode cX6_takesOut 113 = .ok (.aload_n 0, 1) := by decide +kernel
theorem dX6_takesOut_114 : decode cX6_takesOut 114 = .ok (.getfield 21, 3) := by decide +kernel
theorem dX6_takesOut_117 : decode cX6_takesOut 117 = .ok (.iconst 4, 1) := by decide +kernel
theorem dX6_takesOut_118 : decode cX6_takesOut 118 = .ok (.iload_n 2, 1) := by decide +kernel
theorem dX6_takesOut_119 : decode cX6_takesOut 119 = .ok (.imul, 1) := by decide +kernel
theorem dX6_takesOut_120 : decode cX6_takesOut 120 = .ok (.iload_n 1, 1) := by decide +kernel
theorem dX6_takesOut_121 : decode cX6_takesOut 121 = .ok (.iadd, 1) := by decide +kernel
theorem dX6_takesOut_122 : decode cX6_takesOut 122 = .ok (.laload, 1) := by decide +kernel
theorem dX6_takesOut_123 : decode cX6_takesOut 123 = .ok (.lstore 6, 2) := by decide +kernel
theorem dX6_takesOut_125 : decode cX6_takesOut 125 = .ok (.aload_n 0, 1) := by decide +kernel
theorem dX6_takesOut_126 : decode cX6_takesOut 126 = .ok (.iload_n 3, 1) := by decide +kernel
theorem dX6_takesOut_127 : decode cX6_takesOut 127 = .ok (.lload 6, 2) := by decide +kernel
theorem dX6_takesOut_129 : decode cX6_takesOut 129 = .ok (.invokestatic 72, 3) := by decide +kernel
theorem dX6_takesOut_132 : decode cX6_takesOut 132 = .ok (.iload_n 2, 1) := by decide +kernel
theorem dX6_takesOut_133 : decode cX6_takesOut 133 = .ok (.lload 6, 2) := by decide +kernel
theorem dX6_takesOut_135 : decode cX6_takesOut 135 = .ok (.lconst 0, 1) := by decide +kernel
theorem dX6_takesOut_136 : decode cX6_takesOut 136 = .ok (.lcmp, 1) := by decide +kernel
theorem dX6_takesOut_137 : decode cX6_takesOut 137 = .ok (.ifCond .le 9, 3) := by decide +kernel
theorem dX6_takesOut_140 : decode cX6_takesOut 140 = .ok (.lload 4, 2) := by decide +kernel
theorem dX6_takesOut_142 : decode cX6_takesOut 142 = .ok (.lneg, 1) := by decide +kernel
theorem dX6_takesOut_143 : decode cX6_takesOut 143 = .ok (.goto 5, 3) := by decide +kernel
theorem dX6_takesOut_146 : decode cX6_takesOut 146 = .ok (.lload 4, 2) := by decide +kernel
theorem dX6_takesOut_148 : decode cX6_takesOut 148 = .ok (.aload_n 0, 1) := by decide +kernel
theorem dX6_takesOut_149 : decode cX6_takesOut 149 = .ok (.getfield 25, 3) := by decide +kernel
theorem dX6_takesOut_152 : decode cX6_takesOut 152 = .ok (.iload_n 3, 1) := by decide +kernel
theorem dX6_takesOut_153 : decode cX6_takesOut 153 = .ok (.baload, 1) := by decide +kernel
theorem dX6_takesOut_154 : decode cX6_takesOut 154 = .ok (.invokevirtual 68, 3) := by decide +kernel
theorem dX6_takesOut_157 : decode cX6_takesOut 157 = .ok (.goto 66, 3) := by decide +kernel
theorem dX6_takesOut_160 : decode cX6_takesOut 160 = .ok (.iconst 0, 1) := by decide +kernel
theorem dX6_takesOut_161 : decode cX6_takesOut 161 = .ok (.istore 6, 2) := by decide +kernel
theorem dX6_takesOut_163 : decode cX6_takesOut 163 = .ok (.iload 6, 2) := by decide +kernel
theorem dX6_takesOut_165 : decode cX6_takesOut 165 = .ok (.aload_n 0, 1) := by decide +kernel
theorem dX6_takesOut_166 : decode cX6_takesOut 166 = .ok (.getfield 62, 3) := by decide +kernel
theorem dX6_takesOut_169 : decode cX6_takesOut 169 = .ok (.if_icmp .ge 54, 3) := by decide +kernel
theorem dX6_takesOut_172 : decode cX6_takesOut 172 = .ok (.lload 4, 2) := by decide +kernel
theorem dX6_takesOut_174 : decode cX6_takesOut 174 = .ok (.lconst 0, 1) := by decide +kernel
theorem dX6_takesOut_175 : decode cX6_takesOut 175 = .ok (.lcmp, 1) := by decide +kernel
theorem dX6_takesOut_176 : decode cX6_takesOut 176 = .ok (.ifCond .le 47, 3) := by decide +kernel
theorem dX6_takesOut_179 : decode cX6_takesOut 179 = .ok (.aload_n 0, 1) := by decide +kernel
theorem dX6_takesOut_180 : decode cX6_takesOut 180 = .ok (.getfield 21, 3) := by decide +kernel
theorem dX6_takesOut_183 : decode cX6_takesOut 183 = .ok (.iconst 4, 1) := by decide +kernel
theorem dX6_takesOut_184 : decode cX6_takesOut 184 = .ok (.iload 6, 2) := by decide +kernel
theorem dX6_takesOut_186 : decode cX6_takesOut 186 = .ok (.imul, 1) := by decide +kernel
theorem dX6_takesOut_187 : decode cX6_takesOut 187 = .ok (.iload_n 1, 1) := by decide +kernel
theorem dX6_takesOut_188 : decode cX6_takesOut 188 = .ok (.iadd, 1) := by decide +kernel
theorem dX6_takesOut_189 : decode cX6_takesOut 189 = .ok (.laload, 1) := by decide +kernel
theorem dX6_takesOut_190 : decode cX6_takesOut 190 = .ok (.lconst 0, 1) := by decide +kernel
theorem dX6_takesOut_191 : decode cX6_takesOut 191 = .ok (.lcmp, 1) := by decide +kernel
theorem dX6_takesOut_192 : decode cX6_takesOut 192 = .ok (.ifCond .ge 25, 3) := by decide +kernel
theorem dX6_takesOut_195 : decode cX6_takesOut 195 = .ok (.aload_n 0, 1) := by decide +kernel
theorem dX6_takesOut_196 : decode cX6_takesOut 196 = .ok (.iload_n 3, 1) := by decide +kernel
theorem dX6_takesOut_197 : decode cX6_takesOut 197 = .ok (.aload_n 0, 1) := by decide +kernel
theorem dX6_takesOut_198 : decode cX6_takesOut 198 = .ok (.getfield 21, 3) := by decide +kernel
theorem dX6_takesOut_201 : decode cX6_takesOut 201 = .ok (.iconst 4, 1) := by decide +kernel
theorem dX6_takesOut_202 : decode cX6_takesOut 202 = .ok (.iload 6, 2) := by decide +kernel
theorem dX6_takesOut_204 : decode cX6_takesOut 204 = .ok (.imul, 1) := by decide +kernel
theorem dX6_takesOut_205 : decode cX6_takesOut 205 = .ok (.iload_n 1, 1) := by decide +kernel
theorem dX6_takesOut_206 : decode cX6_takesOut 206 = .ok (.iadd, 1) := by decide +kernel
theorem dX6_takesOut_207 : decode cX6_takesOut 207 = .ok (.laload, 1) := by decide +kernel
theorem dX6_takesOut_208 : decode cX6_takesOut 208 = .ok (.lneg, 1) := by decide +kernel
theorem dX6_takesOut_209 : decode cX6_takesOut 209 = .ok (.iload 6, 2) := by decide +kernel
theorem dX6_takesOut_211 : decode cX6_takesOut 211 = .ok (.lload 4, 2) := by decide +kernel
theorem dX6_takesOut_213 : decode cX6_takesOut 213 = .ok (.iconst 0, 1) := by decide +kernel
theorem dX6_takesOut_214 : decode cX6_takesOut 214 = .ok (.invokevirtual 68, 3) := by decide +kernel
theorem dX6_takesOut_217 : decode cX6_takesOut 217 = .ok (.iinc 6 1, 3) := by decide +kernel
theorem dX6_takesOut_220 : decode cX6_takesOut 220 = .ok (.goto (-57), 3) := by decide +kernel
theorem dX6_takesOut_223 : decode cX6_takesOut 223 = .ok (.iinc 3 1, 3) := by decide +kernel
theorem dX6_takesOut_226 : decode cX6_takesOut 226 = .ok (.goto (-170), 3) := by decide +kernel
theorem dX6_takesOut_229 : decode cX6_takesOut 229 = .ok (.iconst 0, 1) := by decide +kernel
theorem dX6_takesOut_230 : decode cX6_takesOut 230 = .ok (.istore_n 3, 1) := by decide +kernel
theorem dX6_takesOut_231 : decode cX6_takesOut 231 = .ok (.iload_n 3, 1) := by decide +kernel
theorem dX6_takesOut_232 : decode cX6_takesOut 232 = .ok (.iconst 4, 1) := by decide +kernel
theorem dX6_takesOut_233 : decode cX6_takesOut 233 = .ok (.aload_n 0, 1) := by decide +kernel
theorem dX6_takesOut_234 : decode cX6_takesOut 234 = .ok (.getfield 65, 3) := by decide +kernel
theorem dX6_takesOut_237 : decode cX6_takesOut 237 = .ok (.imul, 1) := by decide +kernel
theorem dX6_takesOut_238 : decode cX6_takesOut 238 = .ok (.if_icmp .ge 21, 3) := by decide +kernel
theorem dX6_takesOut_241 : decode cX6_takesOut 241 = .ok (.aload_n 0, 1) := by decide +kernel
theorem dX6_takesOut_242 : decode cX6_takesOut 242 = .ok (.getfield 21, 3) := by decide +kernel
theorem dX6_takesOut_245 : decode cX6_takesOut 245 = .ok (.iload_n 3, 1) := by decide +kernel
theorem dX6_takesOut_246 : decode cX6_takesOut 246 = .ok (.aload_n 0, 1) := by decide +kernel
theorem dX6_takesOut_247 : decode cX6_takesOut 247 = .ok (.getfield 28, 3) := by decide +kernel
theorem dX6_takesOut_250 : decode cX6_takesOut 250 = .ok (.iload_n 3, 1) := by decide +kernel
theorem dX6_takesOut_251 : decode cX6_takesOut 251 = .ok (.laload, 1) := by decide +kernel
theorem dX6_takesOut_252 : decode cX6_takesOut 252 = .ok (.lastore, 1) := by decide +kernel
theorem dX6_takesOut_253 : decode cX6_takesOut 253 = .ok (.iinc 3 1, 3) := by decide +kernel
theorem dX6_takesOut_256 : decode cX6_takesOut 256 = .ok (.goto (-25), 3) := by decide +kernel
theorem dX6_takesOut_259 : decode cX6_takesOut 259 = .ok (.iconst 0, 1) := by decide +kernel
theorem dX6_takesOut_260 : decode cX6_takesOut 260 = .ok (.istore_n 3, 1) := by decide +kernel
theorem dX6_takesOut_261 : decode cX6_takesOut 261 = .ok (.iload_n 3, 1) := by decide +kernel
theorem dX6_takesOut_262 : decode cX6_takesOut 262 = .ok (.aload_n 0, 1) := by decide +kernel
theorem dX6_takesOut_263 : decode cX6_takesOut 263 = .ok (.getfield 65, 3) := by decide +kernel
theorem dX6_takesOut_266 : decode cX6_takesOut 266 = .ok (.if_icmp .ge 21, 3) := by decide +kernel
theorem dX6_takesOut_269 : decode cX6_takesOut 269 = .ok (.aload_n 0, 1) := by decide +kernel
theorem dX6_takesOut_270 : decode cX6_takesOut 270 = .ok (.getfield 25, 3) := by decide +kernel
theorem dX6_takesOut_273 : decode cX6_takesOut 273 = .ok (.iload_n 3, 1) := by decide +kernel
theorem dX6_takesOut_274 : decode cX6_takesOut 274 = .ok (.aload_n 0, 1) := by decide +kernel
theorem dX6_takesOut_275 : decode cX6_takesOut 275 = .ok (.getfield 31, 3) := by decide +kernel
theorem dX6_takesOut_278 : decode cX6_takesOut 278 = .ok (.iload_n 3, 1) := by decide +kernel
theorem dX6_takesOut_279 : decode cX6_takesOut 279 = .ok (.baload, 1) := by decide +kernel
theorem dX6_takesOut_280 : decode cX6_takesOut 280 = .ok (.bastore, 1) := by decide +kernel
theorem dX6_takesOut_281 : decode cX6_takesOut 281 = .ok (.iinc 3 1, 3) := by decide +kernel
theorem dX6_takesOut_284 : decode cX6_takesOut 284 = .ok (.goto (-23), 3) := by decide +kernel
theorem dX6_takesOut_287 : decode cX6_takesOut 287 = .ok (.aload_n 0, 1) := by decide +kernel
theorem dX6_takesOut_288 : decode cX6_takesOut 288 = .ok (.aload_n 0, 1) := by decide +kernel
theorem dX6_takesOut_289 : decode cX6_takesOut 289 = .ok (.getfield 65, 3) := by decide +kernel
theorem dX6_takesOut_292 : decode cX6_takesOut 292 = .ok (.putfield 62, 3) := by decide +kernel
theorem dX6_takesOut_295 : decode cX6_takesOut 295 = .ok (.return_, 1) := by decide +kernel
set_option maxRecDepth 20000 in
theorem ggX6_isThere_X6_begins : GoodIn wsX6_isThere wsX6_begins := goodIn_r _ [9, 2, 39, 40, 41, 42, 43, 44, 45, 46, 47, 48, 49, 50] (by decide +kernel) (by decide +kernel)
set_option maxRecDepth 20000 in
theorem gX6_isThere_X6_begins : GoodIn wsX6_isThere (wsV RX6 76 RX6 yX6_begins wsX6_begins) := goodIn_app (goodIn_of _ (by decide +kernel)) ggX6_isThere_X6_begins
set_option maxRecDepth 20000 in
theorem ggX6_isThere_X6_sign : GoodIn wsX6_isThere wsX6_sign := goodIn_r _ [12, 13, 14, 8, 15] (by decide +kernel) (by decide +kernel)
set_option maxRecDepth 20000 in
theorem gX6_isThere_X6_sign : GoodIn wsX6_isThere (va_wsS RX6 79 yX6_sign wsX6_sign) := goodIn_app (goodIn_of _ (by decide +kernel)) ggX6_isThere_X6_sign
set_option maxRecDepth 20000 in
theorem ggX6_isThere_X6_adds : GoodIn wsX6_isThere wsX6_adds := goodIn_r _ [19, 3, 2, 4, 20, 21, 22, 8, 23, 24, 39, 40, 41, 42, 43, 44, 45, 46, 47, 48, 49, 50] (by decide +kernel) (by decide +kernel)
set_option maxRecDepth 20000 in
theorem gX6_isThere_X6_adds : GoodIn wsX6_isThere (wsV RX6 82 RX6 yX6_adds wsX6_adds) := goodIn_app (goodIn_of _ (by decide +kernel)) ggX6_isThere_X6_adds
set_option maxRecDepth 20000 in
theorem ggX6_isThere_X6_takesOut : GoodIn wsX6_isThere wsX6_takesOut := goodIn_r _ [28, 2, 4, 3, 29, 30, 31, 32, 33, 34, 8, 35, 36, 37, 38, 39, 40, 41, 42, 43, 44, 45, 46, 47, 48, 49, 50] (by decide +kernel) (by decide +kernel)
set_option maxRecDepth 20000 in
theorem gX6_isThere_X6_takesOut : GoodIn wsX6_isThere (wsV RX6 86 RX6 yX6_takesOut wsX6_takesOut) := goodIn_app (goodIn_of _ (by decide +kernel)) ggX6_isThere_X6_takesOut
theorem dX6_isThere_0 : decode cX6_isThere 0 = .ok (.aload_n 0, 1) := by decide +kernel
theorem dX6_isThere_1 : decode cX6_isThere 1 = .ok (.invokevirtual 76, 3) := by decide +kernel
theorem dX6_isThere_4 : decode cX6_isThere 4 = .ok (.iconst 0, 1) := by decide +kernel
theorem dX6_isThere_5 : decode cX6_isThere 5 = .ok (.istore_n 3, 1) := by decide +kernel
theorem dX6_isThere_6 : decode cX6_isThere 6 = .ok (.iload_n 3, 1) := by decide +kernel
theorem dX6_isThere_7 : decode cX6_isThere 7 = .ok (.iload_n 2, 1) := by decide +kernel
theorem dX6_isThere_8 : decode cX6_isThere 8 = .ok (.if_icmp .ge 19, 3) := by decide +kernel
theorem dX6_isThere_11 : decode cX6_isThere 11 = .ok (.aload_n 0, 1) := by decide +kernel
theorem dX6_isThere_12 : decode cX6_isThere 12 = .ok (.iload_n 3, 1) := by decide +kernel
theorem dX6_isThere_13 : decode cX6_isThere 13 = .ok (.iload_n 1, 1) := by decide +kernel
theorem dX6_isThere_14 : decode cX6_isThere 14 = .ok (.iload_n 3, 1) := by decide +kernel
theorem dX6_isThere_15 : decode cX6_isThere 15 = .ok (.invokestatic 79, 3) := by decide +kernel
theorem dX6_isThere_18 : decode cX6_isThere 18 = .ok (.invokevirtual 82, 3) := by decide +kernel
theorem dX6_isThere_21 : decode cX6_isThere 21 = .ok (.iinc 3 1, 3) := by decide +kernel
theorem dX6_isThere_24 : decode cX6_isThere 24 = .ok (.goto (-18), 3) := by decide +kernel
theorem dX6_isThere_27 : decode cX6_isThere 27 = .ok (.iconst 0, 1) := by decide +kernel
theorem dX6_isThere_28 : decode cX6_isThere 28 = .ok (.istore_n 3, 1) := by decide +kernel
theorem dX6_isThere_29 : decode cX6_isThere 29 = .ok (.iload_n 3, 1) := by decide +kernel
theorem dX6_isThere_30 : decode cX6_isThere 30 = .ok (.aload_n 0, 1) := by decide +kernel
theorem dX6_isThere_31 : decode cX6_isThere 31 = .ok (.getfield 37, 3) := by decide +kernel
theorem dX6_isThere_34 : decode cX6_isThere 34 = .ok (.if_icmp .ge 14, 3) := by decide +kernel
theorem dX6_isThere_37 : decode cX6_isThere 37 = .ok (.aload_n 0, 1) := by decide +kernel
theorem dX6_isThere_38 : decode cX6_isThere 38 = .ok (.iload_n 3, 1) := by decide +kernel
theorem dX6_isThere_39 : decode cX6_isThere 39 = .ok (.invokevirtual 86, 3) := by decide +kernel
theorem dX6_isThere_42 : decode cX6_isThere 42 = .ok (.iinc 3 1, 3) := by decide +kernel
theorem dX6_isThere_45 : decode cX6_isThere 45 = .ok (.goto (-16), 3) := by decide +kernel
theorem dX6_isThere_48 : decode cX6_isThere 48 = .ok (.iconst 0, 1) := by decide +kernel
theorem dX6_isThere_49 : decode cX6_isThere 49 = .ok (.istore_n 3, 1) := by decide +kernel
theorem dX6_isThere_50 : decode cX6_isThere 50 = .ok (.iload_n 3, 1) := by decide +kernel
theorem dX6_isThere_51 : decode cX6_isThere 51 = .ok (.aload_n 0, 1) := by decide +kernel
theorem dX6_isThere_52 : decode cX6_isThere 52 = .ok (.getfield 62, 3) := by decide +kernel
theorem dX6_isThere_55 : decode cX6_isThere 55 = .ok (.if_icmp .ge 49, 3) := by decide +kernel
theorem dX6_isThere_58 : decode cX6_isThere 58 = .ok (.aload_n 0, 1) := by decide +kernel
theorem dX6_isThere_59 : decode cX6_isThere 59 = .ok (.getfield 21, 3) := by decide +kernel
theorem dX6_isThere_62 : decode cX6_isThere 62 = .ok (.iconst 4, 1) := by decide +kernel
theorem dX6_isThere_63 : decode cX6_isThere 63 = .ok (.iload_n 3, 1) := by decide +kernel
theorem dX6_isThere_64 : decode cX6_isThere 64 = .ok (.imul, 1) := by decide +kernel
theorem dX6_isThere_65 : decode cX6_isThere 65 = .ok (.iconst 3, 1) := by decide +kernel
theorem dX6_isThere_66 : decode cX6_isThere 66 = .ok (.iadd, 1) := by decide +kernel
theorem dX6_isThere_67 : decode cX6_isThere 67 = .ok (.laload, 1) := by decide +kernel
theorem dX6_isThere_68 : decode cX6_isThere 68 = .ok (.lstore 4, 2) := by decide +kernel
theorem dX6_isThere_70 : decode cX6_isThere 70 = .ok (.aload_n 0, 1) := by decide +kernel
theorem dX6_isThere_71 : decode cX6_isThere 71 = .ok (.getfield 25, 3) := by decide +kernel
theorem dX6_isThere_74 : decode cX6_isThere 74 = .ok (.iload_n 3, 1) := by decide +kernel
theorem dX6_isThere_75 : decode cX6_isThere 75 = .ok (.baload, 1) := by decide +kernel
theorem dX6_isThere_76 : decode cX6_isThere 76 = .ok (.ifCond .eq 13, 3) := by decide +kernel
theorem dX6_isThere_79 : decode cX6_isThere 79 = .ok (.lload 4, 2) := by decide +kernel
theorem dX6_isThere_81 : decode cX6_isThere 81 = .ok (.lconst 0, 1) := by decide +kernel
theorem dX6_isThere_82 : decode cX6_isThere 82 = .ok (.lcmp, 1) := by decide +kernel
theorem dX6_isThere_83 : decode cX6_isThere 83 = .ok (.ifCond .eq 15, 3) := by decide +kernel
theorem dX6_isThere_86 : decode cX6_isThere 86 = .ok (.goto 10, 3) := by decide +kernel
theorem dX6_isThere_89 : decode cX6_isThere 89 = .ok (.lload 4, 2) := by decide +kernel
theorem dX6_isThere_91 : decode cX6_isThere 91 = .ok (.lconst 0, 1) := by decide +kernel
theorem dX6_isThere_92 : decode cX6_isThere 92 = .ok (.lcmp, 1) := by decide +kernel
theorem dX6_isThere_93 : decode cX6_isThere 93 = .ok (.ifCond .gt 5, 3) := by decide +kernel
theorem dX6_isThere_96 : decode cX6_isThere 96 = .ok (.iconst 0, 1) := by decide +kernel
theorem dX6_isThere_97 : decode cX6_isThere 97 = .ok (.ireturn, 1) := by decide +kernel
theorem dX6_isThere_98 : decode cX6_isThere 98 = .ok (.iinc 3 1, 3) := by decide +kernel
theorem dX6_isThere_101 : decode cX6_isThere 101 = .ok (.goto (-51), 3) := by decide +kernel
theorem dX6_isThere_104 : decode cX6_isThere 104 = .ok (.iconst 1, 1) := by decide +kernel
theorem dX6_isThere_105 : decode cX6_isThere 105 = .ok (.ireturn, 1) := by decide +kernel
set_option maxRecDepth 20000 in
theorem ggX6_works_X6_power : GoodIn wsX6_works wsX6_power := goodIn_r _ [7] (by decide +kernel) (by decide +kernel)
set_option maxRecDepth 20000 in
theorem gX6_works_X6_power : GoodIn wsX6_works (va_wsS RX6 56 yX6_power wsX6_power) := goodIn_app (goodIn_of _ (by decide +kernel)) ggX6_works_X6_power
set_option maxRecDepth 20000 in
theorem ggX6_works_X6_isThere : GoodIn wsX6_works wsX6_isThere := goodIn_r _ [11, 12, 13, 14, 15, 16, 17, 18, 6, 19, 20, 21, 22, 4, 5, 7, 23, 24, 25, 26, 27, 28, 29, 30, 31, 32, 33, 34, 35, 36, 37, 38, 39, 40, 41, 42, 43, 44, 45, 46, 47, 48, 49, 50, 51, 52, 53, 54, 55, 56, 57] (by decide +kernel) (by decide +kernel)
set_option maxRecDepth 20000 in
theorem gX6_works_X6_isThere : GoodIn wsX6_works (wsV RX6 90 RX6 yX6_isThere wsX6_isThere) := goodIn_app (goodIn_of _ (by decide +kernel)) ggX6_works_X6_isThere
theorem dX6_works_0 : decode cX6_works 0 = .ok (.aload_n 0, 1) := by decide +kernel
theorem dX6_works_1 : decode cX6_works 1 = .ok (.getfield 17, 3) := by decide +kernel
theorem dX6_works_4 : decode cX6_works 4 = .ok (.ifCond .ne 4, 3) := by decide +kernel
theorem dX6_works_7 : decode cX6_works 7 = .ok (.return_, 1) := by decide +kernel
theorem dX6_works_8 : decode cX6_works 8 = .ok (.aload_n 0, 1) := by decide +kernel
theorem dX6_works_9 : decode cX6_works 9 = .ok (.iconst 0, 1) := by decide +kernel
theorem dX6_works_10 : decode cX6_works 10 = .ok (.putfield 17, 3) := by decide +kernel
theorem dX6_works_13 : decode cX6_works 13 = .ok (.iconst 0, 1) := by decide +kernel
theorem dX6_works_14 : decode cX6_works 14 = .ok (.istore_n 1, 1) := by decide +kernel
theorem dX6_works_15 : decode cX6_works 15 = .ok (.iload_n 1, 1) := by decide +kernel
theorem dX6_works_16 : decode cX6_works 16 = .ok (.sipush 6561, 3) := by decide +kernel
theorem dX6_works_19 : decode cX6_works 19 = .ok (.if_icmp .ge 24, 3) := by decide +kernel
theorem dX6_works_22 : decode cX6_works 22 = .ok (.aload_n 0, 1) := by decide +kernel
theorem dX6_works_23 : decode cX6_works 23 = .ok (.getfield 13, 3) := by decide +kernel
theorem dX6_works_26 : decode cX6_works 26 = .ok (.iload_n 1, 1) := by decide +kernel
theorem dX6_works_27 : decode cX6_works 27 = .ok (.iload_n 1, 1) := by decide +kernel
theorem dX6_works_28 : decode cX6_works 28 = .ok (.ifCond .ne 7, 3) := by decide +kernel
theorem dX6_works_31 : decode cX6_works 31 = .ok (.iconst 1, 1) := by decide +kernel
theorem dX6_works_32 : decode cX6_works 32 = .ok (.goto 4, 3) := by decide +kernel
theorem dX6_works_35 : decode cX6_works 35 = .ok (.iconst 0, 1) := by decide +kernel
theorem dX6_works_36 : decode cX6_works 36 = .ok (.bastore, 1) := by decide +kernel
theorem dX6_works_37 : decode cX6_works 37 = .ok (.iinc 1 1, 3) := by decide +kernel
theorem dX6_works_40 : decode cX6_works 40 = .ok (.goto (-25), 3) := by decide +kernel
theorem dX6_works_43 : decode cX6_works 43 = .ok (.iconst 0, 1) := by decide +kernel
theorem dX6_works_44 : decode cX6_works 44 = .ok (.istore_n 1, 1) := by decide +kernel
theorem dX6_works_45 : decode cX6_works 45 = .ok (.iload_n 1, 1) := by decide +kernel
theorem dX6_works_46 : decode cX6_works 46 = .ok (.aload_n 0, 1) := by decide +kernel
theorem dX6_works_47 : decode cX6_works 47 = .ok (.getfield 49, 3) := by decide +kernel
theorem dX6_works_50 : decode cX6_works 50 = .ok (.if_icmp .ge 89, 3) := by decide +kernel
theorem dX6_works_53 : decode cX6_works 53 = .ok (.iconst 0, 1) := by decide +kernel
theorem dX6_works_54 : decode cX6_works 54 = .ok (.istore_n 2, 1) := by decide +kernel
theorem dX6_works_55 : decode cX6_works 55 = .ok (.iload_n 2, 1) := by decide +kernel
theorem dX6_works_56 : decode cX6_works 56 = .ok (.iload_n 1, 1) := by decide +kernel
theorem dX6_works_57 : decode cX6_works 57 = .ok (.invokestatic 56, 3) := by decide +kernel
theorem dX6_works_60 : decode cX6_works 60 = .ok (.if_icmp .ge 73, 3) := by decide +kernel
theorem dX6_works_63 : decode cX6_works 63 = .ok (.aload_n 0, 1) := by decide +kernel
theorem dX6_works_64 : decode cX6_works 64 = .ok (.getfield 13, 3) := by decide +kernel
theorem dX6_works_67 : decode cX6_works 67 = .ok (.iload_n 2, 1) := by decide +kernel
theorem dX6_works_68 : decode cX6_works 68 = .ok (.baload, 1) := by decide +kernel
theorem dX6_works_69 : decode cX6_works 69 = .ok (.istore_n 3, 1) := by decide +kernel
theorem dX6_works_70 : decode cX6_works 70 = .ok (.iconst 0, 1) := by decide +kernel
theorem dX6_works_71 : decode cX6_works 71 = .ok (.istore 4, 2) := by decide +kernel
theorem dX6_works_73 : decode cX6_works 73 = .ok (.iload 4, 2) := by decide +kernel
theorem dX6_works_75 : decode cX6_works 75 = .ok (.iconst 3, 1) := by decide +kernel
theorem dX6_works_76 : decode cX6_works 76 = .ok (.if_icmp .ge 51, 3) := by decide +kernel
theorem dX6_works_79 : decode cX6_works 79 = .ok (.aload_n 0, 1) := by decide +kernel
theorem dX6_works_80 : decode cX6_works 80 = .ok (.getfield 13, 3) := by decide +kernel
theorem dX6_works_83 : decode cX6_works 83 = .ok (.iload_n 2, 1) := by decide +kernel
theorem dX6_works_84 : decode cX6_works 84 = .ok (.iload 4, 2) := by decide +kernel
theorem dX6_works_86 : decode cX6_works 86 = .ok (.iload_n 1, 1) := by decide +kernel
theorem dX6_works_87 : decode cX6_works 87 = .ok (.invokestatic 56, 3) := by decide +kernel
theorem dX6_works_90 : decode cX6_works 90 = .ok (.imul, 1) := by decide +kernel
theorem dX6_works_91 : decode cX6_works 91 = .ok (.iadd, 1) := by decide +kernel
theorem dX6_works_92 : decode cX6_works 92 = .ok (.iload_n 3, 1) := by decide +kernel
theorem dX6_works_93 : decode cX6_works 93 = .ok (.ifCond .eq 26, 3) := by decide +kernel
theorem dX6_works_96 : decode cX6_works 96 = .ok (.aload_n 0, 1) := by decide +kernel
theorem dX6_works_97 : decode cX6_works 97 = .ok (.iload_n 2, 1) := by decide +kernel
theorem dX6_works_98 : decode cX6_works 98 = .ok (.iload 4, 2) := by decide +kernel
theorem dX6_works_100 : decode cX6_works 100 = .ok (.iload_n 1, 1) := by decide +kernel
theorem dX6_works_101 : decode cX6_works 101 = .ok (.invokestatic 56, 3) := by decide +kernel
theorem dX6_works_104 : decode cX6_works 104 = .ok (.imul, 1) := by decide +kernel
theorem dX6_works_105 : decode cX6_works 105 = .ok (.iadd, 1) := by decide +kernel
theorem dX6_works_106 : decode cX6_works 106 = .ok (.iload_n 1, 1) := by decide +kernel
theorem dX6_works_107 : decode cX6_works 107 = .ok (.iconst 1, 1) := by decide +kernel
theorem dX6_works_108 : decode cX6_works 108 = .ok (.iadd, 1) := by decide +kernel
theorem dX6_works_109 : decode cX6_works 109 = .ok (.invokevirtual 90, 3) := by decide +kernel
theorem dX6_works_112 : decode cX6_works 112 = .ok (.ifCond .eq 7, 3) := by decide +kernel
theorem dX6_works_115 : decode cX6_works 115 = .ok (.iconst 1, 1) := by decide +kernel
theorem dX6_works_116 : decode cX6_works 116 = .ok (.goto 4, 3) := by decide +kernel
theorem dX6_works_119 : decode cX6_works 119 = .ok (.iconst 0, 1) := by decide +kernel
theorem dX6_works_120 : decode cX6_works 120 = .ok (.bastore, 1) := by decide +kernel
theorem dX6_works_121 : decode cX6_works 121 = .ok (.iinc 4 1, 3) := by decide +kernel
theorem dX6_works_124 : decode cX6_works 124 = .ok (.goto (-51), 3) := by decide +kernel
theorem dX6_works_127 : decode cX6_works 127 = .ok (.iinc 2 1, 3) := by decide +kernel
theorem dX6_works_130 : decode cX6_works 130 = .ok (.goto (-75), 3) := by decide +kernel
theorem dX6_works_133 : decode cX6_works 133 = .ok (.iinc 1 1, 3) := by decide +kernel
theorem dX6_works_136 : decode cX6_works 136 = .ok (.goto (-91), 3) := by decide +kernel
theorem dX6_works_139 : decode cX6_works 139 = .ok (.return_, 1) := by decide +kernel
set_option maxRecDepth 20000 in
theorem ggX6_isFace_X6_works : GoodIn wsX6_isFace wsX6_works := goodIn_r _ [6, 7, 1, 8, 9, 10, 5, 11, 12, 13, 14, 15, 16, 17, 18, 19, 20, 21, 22, 23, 24, 25, 26, 27, 28, 29, 30, 31, 32, 33, 34, 35, 36, 37, 38, 39, 40, 41, 42, 43, 44, 45, 46, 47, 48, 49, 53, 54, 55, 56, 57, 58, 59, 60, 61, 62, 63, 64] (by decide +kernel) (by decide +kernel)
set_option maxRecDepth 20000 in
theorem gX6_isFace_X6_works : GoodIn wsX6_isFace (wsV RX6 94 RX6 yX6_works wsX6_works) := goodIn_app (goodIn_of _ (by decide +kernel)) ggX6_isFace_X6_works
set_option maxRecDepth 20000 in
theorem ggX6_isFace_X6_in : GoodIn wsX6_isFace wsX6_in := goodIn_r _ [52] (by decide +kernel) (by decide +kernel)
set_option maxRecDepth 20000 in
theorem gX6_isFace_X6_in : GoodIn wsX6_isFace (va_wsS RX6 45 yX6_in wsX6_in) := goodIn_app (goodIn_of _ (by decide +kernel)) ggX6_isFace_X6_in
theorem dX6_isFace_0 : decode cX6_isFace 0 = .ok (.aload_n 0, 1) := by decide +kernel
theorem dX6_isFace_1 : decode cX6_isFace 1 = .ok (.invokevirtual 94, 3) := by decide +kernel
theorem dX6_isFace_4 : decode cX6_isFace 4 = .ok (.iload_n 1, 1) := by decide +kernel
theorem dX6_isFace_5 : decode cX6_isFace 5 = .ok (.iconst 0, 1) := by decide +kernel
theorem dX6_isFace_6 : decode cX6_isFace 6 = .ok (.sipush 6560, 3) := by decide +kernel
theorem dX6_isFace_9 : decode cX6_isFace 9 = .ok (.invokestatic 45, 3) := by decide +kernel
theorem dX6_isFace_12 : decode cX6_isFace 12 = .ok (.ifCond .eq 16, 3) := by decide +kernel
theorem dX6_isFace_15 : decode cX6_isFace 15 = .ok (.aload_n 0, 1) := by decide +kernel
theorem dX6_isFace_16 : decode cX6_isFace 16 = .ok (.getfield 13, 3) := by decide +kernel
theorem dX6_isFace_19 : decode cX6_isFace 19 = .ok (.iload_n 1, 1) := by decide +kernel
theorem dX6_isFace_20 : decode cX6_isFace 20 = .ok (.baload, 1) := by decide +kernel
theorem dX6_isFace_21 : decode cX6_isFace 21 = .ok (.ifCond .eq 7, 3) := by decide +kernel
theorem dX6_isFace_24 : decode cX6_isFace 24 = .ok (.iconst 1, 1) := by decide +kernel
theorem dX6_isFace_25 : decode cX6_isFace 25 = .ok (.goto 4, 3) := by decide +kernel
theorem dX6_isFace_28 : decode cX6_isFace 28 = .ok (.iconst 0, 1) := by decide +kernel
theorem dX6_isFace_29 : decode cX6_isFace 29 = .ok (.ireturn, 1) := by decide +kernel
set_option maxRecDepth 20000 in
theorem ggX6_rank_X6_at : GoodIn wsX6_rank wsX6_at := goodIn_r _ [7, 8, 9, 10, 11, 12, 13, 14, 15, 16, 17, 18, 19, 20] (by decide +kernel) (by decide +kernel)
set_option maxRecDepth 20000 in
theorem gX6_rank_X6_at : GoodIn wsX6_rank (wsV RX6 41 RX6 yX6_at wsX6_at) := goodIn_app (goodIn_of _ (by decide +kernel)) ggX6_rank_X6_at
theorem dX6_rank_0 : decode cX6_rank 0 = .ok (.iconst 0, 1) := by decide +kernel
theorem dX6_rank_1 : decode cX6_rank 1 = .ok (.istore_n 3, 1) := by decide +kernel
theorem dX6_rank_2 : decode cX6_rank 2 = .ok (.iconst 0, 1) := by decide +kernel
theorem dX6_rank_3 : decode cX6_rank 3 = .ok (.istore 4, 2) := by decide +kernel
theorem dX6_rank_5 : decode cX6_rank 5 = .ok (.iload 4, 2) := by decide +kernel
theorem dX6_rank_7 : decode cX6_rank 7 = .ok (.aload_n 0, 1) := by decide +kernel
theorem dX6_rank_8 : decode cX6_rank 8 = .ok (.getfield 49, 3) := by decide +kernel
theorem dX6_rank_11 : decode cX6_rank 11 = .ok (.if_icmp .ge 69, 3) := by decide +kernel
theorem dX6_rank_14 : decode cX6_rank 14 = .ok (.iload_n 1, 1) := by decide +kernel
theorem dX6_rank_15 : decode cX6_rank 15 = .ok (.iload 4, 2) := by decide +kernel
theorem dX6_rank_17 : decode cX6_rank 17 = .ok (.ishr, 1) := by decide +kernel
theorem dX6_rank_18 : decode cX6_rank 18 = .ok (.iconst 1, 1) := by decide +kernel
theorem dX6_rank_19 : decode cX6_rank 19 = .ok (.iand, 1) := by decide +kernel
theorem dX6_rank_20 : decode cX6_rank 20 = .ok (.ifCond .ne 6, 3) := by decide +kernel
theorem dX6_rank_23 : decode cX6_rank 23 = .ok (.goto 51, 3) := by decide +kernel
theorem dX6_rank_26 : decode cX6_rank 26 = .ok (.iconst 0, 1) := by decide +kernel
theorem dX6_rank_27 : decode cX6_rank 27 = .ok (.istore 5, 2) := by decide +kernel
theorem dX6_rank_29 : decode cX6_rank 29 = .ok (.iload 5, 2) := by decide +kernel
theorem dX6_rank_31 : decode cX6_rank 31 = .ok (.iconst 4, 1) := by decide +kernel
theorem dX6_rank_32 : decode cX6_rank 32 = .ok (.if_icmp .ge 39, 3) := by decide +kernel
theorem dX6_rank_35 : decode cX6_rank 35 = .ok (.aload_n 0, 1) := by decide +kernel
theorem dX6_rank_36 : decode cX6_rank 36 = .ok (.getfield 34, 3) := by decide +kernel
theorem dX6_rank_39 : decode cX6_rank 39 = .ok (.iconst 4, 1) := by decide +kernel
theorem dX6_rank_40 : decode cX6_rank 40 = .ok (.iload_n 3, 1) := by decide +kernel
theorem dX6_rank_41 : decode cX6_rank 41 = .ok (.imul, 1) := by decide +kernel
theorem dX6_rank_42 : decode cX6_rank 42 = .ok (.iload 5, 2) := by decide +kernel
theorem dX6_rank_44 : decode cX6_rank 44 = .ok (.iadd, 1) := by decide +kernel
theorem dX6_rank_45 : decode cX6_rank 45 = .ok (.iload 5, 2) := by decide +kernel
theorem dX6_rank_47 : decode cX6_rank 47 = .ok (.iload_n 2, 1) := by decide +kernel
theorem dX6_rank_48 : decode cX6_rank 48 = .ok (.if_icmp .ge 15, 3) := by decide +kernel
theorem dX6_rank_51 : decode cX6_rank 51 = .ok (.aload_n 0, 1) := by decide +kernel
theorem dX6_rank_52 : decode cX6_rank 52 = .ok (.iload 4, 2) := by decide +kernel
theorem dX6_rank_54 : decode cX6_rank 54 = .ok (.iload 5, 2) := by decide +kernel
theorem dX6_rank_56 : decode cX6_rank 56 = .ok (.invokevirtual 41, 3) := by decide +kernel
theorem dX6_rank_59 : decode cX6_rank 59 = .ok (.i2l, 1) := by decide +kernel
theorem dX6_rank_60 : decode cX6_rank 60 = .ok (.goto 4, 3) := by decide +kernel
theorem dX6_rank_63 : decode cX6_rank 63 = .ok (.lconst 0, 1) := by decide +kernel
theorem dX6_rank_64 : decode cX6_rank 64 = .ok (.lastore, 1) := by decide +kernel
theorem dX6_rank_65 : decode cX6_rank 65 = .ok (.iinc 5 1, 3) := by decide +kernel
theorem dX6_rank_68 : decode cX6_rank 68 = .ok (.goto (-39), 3) := by decide +kernel
theorem dX6_rank_71 : decode cX6_rank 71 = .ok (.iinc 3 1, 3) := by decide +kernel
theorem dX6_rank_74 : decode cX6_rank 74 = .ok (.iinc 4 1, 3) := by decide +kernel
theorem dX6_rank_77 : decode cX6_rank 77 = .ok (.goto (-72), 3) := by decide +kernel
theorem dX6_rank_80 : decode cX6_rank 80 = .ok (.iconst 0, 1) := by decide +kernel
theorem dX6_rank_81 : decode cX6_rank 81 = .ok (.istore 4, 2) := by decide +kernel
theorem dX6_rank_83 : decode cX6_rank 83 = .ok (.iconst 0, 1) := by decide +kernel
theorem dX6_rank_84 : decode cX6_rank 84 = .ok (.istore 5, 2) := by decide +kernel
theorem dX6_rank_86 : decode cX6_rank 86 = .ok (.iload 5, 2) := by decide +kernel
theorem dX6_rank_88 : decode cX6_rank 88 = .ok (.iload_n 2, 1) := by decide +kernel
theorem dX6_rank_89 : decode cX6_rank 89 = .ok (.if_icmp .ge 225, 3) := by decide +kernel
theorem dX6_rank_92 : decode cX6_rank 92 = .ok (.iload 4, 2) := by decide +kernel
theorem dX6_rank_94 : decode cX6_rank 94 = .ok (.istore 6, 2) := by decide +kernel
theorem dX6_rank_96 : decode cX6_rank 96 = .ok (.iload 6, 2) := by decide +kernel
theorem dX6_rank_98 : decode cX6_rank 98 = .ok (.iload_n 3, 1) := by decide +kernel
theorem dX6_rank_99 : decode cX6_rank 99 = .ok (.if_icmp .ge 26, 3) := by decide +kernel
theorem dX6_rank_102 : decode cX6_rank 102 = .ok (.aload_n 0, 1) := by decide +kernel
theorem dX6_rank_103 : decode cX6_rank 103 = .ok (.getfield 34, 3) := by decide +kernel
theorem dX6_rank_106 : decode cX6_rank 106 = .ok (.iconst 4, 1) := by decide +kernel
theorem dX6_rank_107 : decode cX6_rank 107 = .ok (.iload 6, 2) := by decide +kernel
theorem dX6_rank_109 : decode cX6_rank 109 = .ok (.imul, 1) := by decide +kernel
theorem dX6_rank_110 : decode cX6_rank 110 = .ok (.iload 5, 2) := by decide +kernel
theorem dX6_rank_112 : decode cX6_rank 112 = .ok (.iadd, 1) := by decide +kernel
theorem dX6_rank_113 : decode cX6_rank 113 = .ok (.laload, 1) := by decide +kernel
theorem dX6_rank_114 : decode cX6_rank 114 = .ok (.lconst 0, 1) := by decide +kernel
theorem dX6_rank_115 : decode cX6_rank 115 = .ok (.lcmp, 1) := by decide +kernel
theorem dX6_rank_116 : decode cX6_rank 116 = .ok (.ifCond .ne 9, 3) := by decide +kernel
theorem dX6_rank_119 : decode cX6_rank 119 = .ok (.iinc 6 1, 3) := by decide +kernel
theorem dX6_rank_122 : decode cX6_rank 122 = .ok (.goto (-26), 3) := by decide +kernel
theorem dX6_rank_125 : decode cX6_rank 125 = .ok (.iload 6, 2) := by decide +kernel
theorem dX6_rank_127 : decode cX6_rank 127 = .ok (.iload_n 3, 1) := by decide +kernel
theorem dX6_rank_128 : decode cX6_rank 128 = .ok (.if_icmp .ne 6, 3) := by decide +kernel
theorem dX6_rank_131 : decode cX6_rank 131 = .ok (.goto 177, 3) := by decide +kernel
theorem dX6_rank_134 : decode cX6_rank 134 = .ok (.iconst 0, 1) := by decide +kernel
theorem dX6_rank_135 : decode cX6_rank 135 = .ok (.istore 7, 2) := by decide +kernel
theorem dX6_rank_137 : decode cX6_rank 137 = .ok (.iload 7, 2) := by decide +kernel
theorem dX6_rank_139 : decode cX6_rank 139 = .ok (.iconst 4, 1) := by decide +kernel
theorem dX6_rank_140 : decode cX6_rank 140 = .ok (.if_icmp .ge 61, 3) := by decide +kernel
theorem dX6_rank_143 : decode cX6_rank 143 = .ok (.aload_n 0, 1) := by decide +kernel
theorem dX6_rank_144 : decode cX6_rank 144 = .ok (.getfield 34, 3) := by decide +kernel
theorem dX6_rank_147 : decode cX6_rank 147 = .ok (.iconst 4, 1) := by decide +kernel
theorem dX6_rank_148 : decode cX6_rank 148 = .ok (.iload 6, 2) := by decide +kernel
theorem dX6_rank_150 : decode cX6_rank 150 = .ok (.imul, 1) := by decide +kernel
theorem dX6_rank_151 : decode cX6_rank 151 = .ok (.iload 7, 2) := by decide +kernel
theorem dX6_rank_153 : decode cX6_rank 153 = .ok (.iadd, 1) := by decide +kernel
theorem dX6_rank_154 : decode cX6_rank 154 = .ok (.laload, 1) := by decide +kernel
theorem dX6_rank_155 : decode cX6_rank 155 = .ok (.lstore 8, 2) := by decide +kernel
theorem dX6_rank_157 : decode cX6_rank 157 = .ok (.aload_n 0, 1) := by decide +kernel
theorem dX6_rank_158 : decode cX6_rank 158 = .ok (.getfield 34, 3) := by decide +kernel
theorem dX6_rank_161 : decode cX6_rank 161 = .ok (.iconst 4, 1) := by decide +kernel
theorem dX6_rank_162 : decode cX6_rank 162 = .ok (.iload 6, 2) := by decide +kernel
theorem dX6_rank_164 : decode cX6_rank 164 = .ok (.imul, 1) := by decide +kernel
theorem dX6_rank_165 : decode cX6_rank 165 = .ok (.iload 7, 2) := by decide +kernel
theorem dX6_rank_167 : decode cX6_rank 167 = .ok (.iadd, 1) := by decide +kernel
theorem dX6_rank_168 : decode cX6_rank 168 = .ok (.aload_n 0, 1) := by decide +kernel
theorem dX6_rank_169 : decode cX6_rank 169 = .ok (.getfield 34, 3) := by decide +kernel
theorem dX6_rank_172 : decode cX6_rank 172 = .ok (.iconst 4, 1) := by decide +kernel
theorem dX6_rank_173 : decode cX6_rank 173 = .ok (.iload 4, 2) := by decide +kernel
theorem dX6_rank_175 : decode cX6_rank 175 = .ok (.imul, 1) := by decide +kernel
theorem dX6_rank_176 : decode cX6_rank 176 = .ok (.iload 7, 2) := by decide +kernel
theorem dX6_rank_178 : decode cX6_rank 178 = .ok (.iadd, 1) := by decide +kernel
theorem dX6_rank_179 : decode cX6_rank 179 = .ok (.laload, 1) := by decide +kernel
theorem dX6_rank_180 : decode cX6_rank 180 = .ok (.lastore, 1) := by decide +kernel
theorem dX6_rank_181 : decode cX6_rank 181 = .ok (.aload_n 0, 1) := by decide +kernel
theorem dX6_rank_182 : decode cX6_rank 182 = .ok (.getfield 34, 3) := by decide +kernel
theorem dX6_rank_185 : decode cX6_rank 185 = .ok (.iconst 4, 1) := by decide +kernel
theorem dX6_rank_186 : decode cX6_rank 186 = .ok (.iload 4, 2) := by decide +kernel
theorem dX6_rank_188 : decode cX6_rank 188 = .ok (.imul, 1) := by decide +kernel
theorem dX6_rank_189 : decode cX6_rank 189 = .ok (.iload 7, 2) := by decide +kernel
theorem dX6_rank_191 : decode cX6_rank 191 = .ok (.iadd, 1) := by decide +kernel
theorem dX6_rank_192 : decode cX6_rank 192 = .ok (.lload 8, 2) := by decide +kernel
theorem dX6_rank_194 : decode cX6_rank 194 = .ok (.lastore, 1) := by decide +kernel
theorem dX6_rank_195 : decode cX6_rank 195 = .ok (.iinc 7 1, 3) := by decide +kernel
theorem dX6_rank_198 : decode cX6_rank 198 = .ok (.goto (-61), 3) := by decide +kernel
theorem dX6_rank_201 : decode cX6_rank 201 = .ok (.iload 4, 2) := by decide +kernel
theorem dX6_rank_203 : decode cX6_rank 203 = .ok (.iconst 1, 1) := by decide +kernel
theorem dX6_rank_204 : decode cX6_rank 204 = .ok (.iadd, 1) := by decide +kernel
theorem dX6_rank_205 : decode cX6_rank 205 = .ok (.istore 7, 2) := by decide +kernel
theorem dX6_rank_207 : decode cX6_rank 207 = .ok (.iload 7, 2) := by decide +kernel
theorem dX6_rank_209 : decode cX6_rank 209 = .ok (.iload_n 3, 1) := by decide +kernel
theorem dX6_rank_210 : decode cX6_rank 210 = .ok (.if_icmp .ge 95, 3) := by decide +kernel
theorem dX6_rank_213 : decode cX6_rank 213 = .ok (.aload_n 0, 1) := by decide +kernel
theorem dX6_rank_214 : decode cX6_rank 214 = .ok (.getfield 34, 3) := by decide +kernel
theorem dX6_rank_217 : decode cX6_rank 217 = .ok (.iconst 4, 1) := by decide +kernel
theorem dX6_rank_218 : decode cX6_rank 218 = .ok (.iload 7, 2) := by decide +kernel
theorem dX6_rank_220 : decode cX6_rank 220 = .ok (.imul, 1) := by decide +kernel
theorem dX6_rank_221 : decode cX6_rank 221 = .ok (.iload 5, 2) := by decide +kernel
theorem dX6_rank_223 : decode cX6_rank 223 = .ok (.iadd, 1) := by decide +kernel
theorem dX6_rank_224 : decode cX6_rank 224 = .ok (.laload, 1) := by decide +kernel
theorem dX6_rank_225 : decode cX6_rank 225 = .ok (.lstore 8, 2) := by decide +kernel
theorem dX6_rank_227 : decode cX6_rank 227 = .ok (.aload_n 0, 1) := by decide +kernel
theorem dX6_rank_228 : decode cX6_rank 228 = .ok (.getfield 34, 3) := by decide +kernel
theorem dX6_rank_231 : decode cX6_rank 231 = .ok (.iconst 4, 1) := by decide +kernel
theorem dX6_rank_232 : decode cX6_rank 232 = .ok (.iload 4, 2) := by decide +kernel
theorem dX6_rank_234 : decode cX6_rank 234 = .ok (.imul, 1) := by decide +kernel
theorem dX6_rank_235 : decode cX6_rank 235 = .ok (.iload 5, 2) := by decide +kernel
theorem dX6_rank_237 : decode cX6_rank 237 = .ok (.iadd, 1) := by decide +kernel
theorem dX6_rank_238 : decode cX6_rank 238 = .ok (.laload, 1) := by decide +kernel
theorem dX6_rank_239 : decode cX6_rank 239 = .ok (.lstore 10, 2) := by decide +kernel
theorem dX6_rank_241 : decode cX6_rank 241 = .ok (.iconst 0, 1) := by decide +kernel
theorem dX6_rank_242 : decode cX6_rank 242 = .ok (.istore 12, 2) := by decide +kernel
theorem dX6_rank_244 : decode cX6_rank 244 = .ok (.iload 12, 2) := by decide +kernel
theorem dX6_rank_246 : decode cX6_rank 246 = .ok (.iconst 4, 1) := by decide +kernel
theorem dX6_rank_247 : decode cX6_rank 247 = .ok (.if_icmp .ge 52, 3) := by decide +kernel
theorem dX6_rank_250 : decode cX6_rank 250 = .ok (.aload_n 0, 1) := by decide +kernel
theorem dX6_rank_251 : decode cX6_rank 251 = .ok (.getfield 34, 3) := by decide +kernel
theorem dX6_rank_254 : decode cX6_rank 254 = .ok (.iconst 4, 1) := by decide +kernel
theorem dX6_rank_255 : decode cX6_rank 255 = .ok (.iload 7, 2) := by decide +kernel
theorem dX6_rank_257 : decode cX6_rank 257 = .ok (.imul, 1) := by decide +kernel
theorem dX6_rank_258 : decode cX6_rank 258 = .ok (.iload 12, 2) := by decide +kernel
theorem dX6_rank_260 : decode cX6_rank 260 = .ok (.iadd, 1) := by decide +kernel
theorem dX6_rank_261 : decode cX6_rank 261 = .ok (.aload_n 0, 1) := by decide +kernel
theorem dX6_rank_262 : decode cX6_rank 262 = .ok (.getfield 34, 3) := by decide +kernel
theorem dX6_rank_265 : decode cX6_rank 265 = .ok (.iconst 4, 1) := by decide +kernel
theorem dX6_rank_266 : decode cX6_rank 266 = .ok (.iload 7, 2) := by decide +kernel
theorem dX6_rank_268 : decode cX6_rank 268 = .ok (.imul, 1) := by decide +kernel
theorem dX6_rank_269 : decode cX6_rank 269 = .ok (.iload 12, 2) := by decide +kernel
theorem dX6_rank_271 : decode cX6_rank 271 = .ok (.iadd, 1) := by decide +kernel
theorem dX6_rank_272 : decode cX6_rank 272 = .ok (.laload, 1) := by decide +kernel
theorem dX6_rank_273 : decode cX6_rank 273 = .ok (.lload 10, 2) := by decide +kernel
theorem dX6_rank_275 : decode cX6_rank 275 = .ok (.lmul, 1) := by decide +kernel
theorem dX6_rank_276 : decode cX6_rank 276 = .ok (.aload_n 0, 1) := by decide +kernel
theorem dX6_rank_277 : decode cX6_rank 277 = .ok (.getfield 34, 3) := by decide +kernel
theorem dX6_rank_280 : decode cX6_rank 280 = .ok (.iconst 4, 1) := by decide +kernel
theorem dX6_rank_281 : decode cX6_rank 281 = .ok (.iload 4, 2) := by decide +kernel
theorem dX6_rank_283 : decode cX6_rank 283 = .ok (.imul, 1) := by decide +kernel
theorem dX6_rank_284 : decode cX6_rank 284 = .ok (.iload 12, 2) := by decide +kernel
theorem dX6_rank_286 : decode cX6_rank 286 = .ok (.iadd, 1) := by decide +kernel
theorem dX6_rank_287 : decode cX6_rank 287 = .ok (.laload, 1) := by decide +kernel
theorem dX6_rank_288 : decode cX6_rank 288 = .ok (.lload 8, 2) := by decide +kernel
theorem dX6_rank_290 : decode cX6_rank 290 = .ok (.lmul, 1) := by decide +kernel
theorem dX6_rank_291 : decode cX6_rank 291 = .ok (.lsub, 1) := by decide +kernel
theorem dX6_rank_292 : decode cX6_rank 292 = .ok (.lastore, 1) := by decide +kernel
theorem dX6_rank_293 : decode cX6_rank 293 = .ok (.iinc 12 1, 3) := by decide +kernel
theorem dX6_rank_296 : decode cX6_rank 296 = .ok (.goto (-52), 3) := by decide +kernel
theorem dX6_rank_299 : decode cX6_rank 299 = .ok (.iinc 7 1, 3) := by decide +kernel
theorem dX6_rank_302 : decode cX6_rank 302 = .ok (.goto (-95), 3) := by decide +kernel
theorem dX6_rank_305 : decode cX6_rank 305 = .ok (.iinc 4 1, 3) := by decide +kernel
theorem dX6_rank_308 : decode cX6_rank 308 = .ok (.iinc 5 1, 3) := by decide +kernel
theorem dX6_rank_311 : decode cX6_rank 311 = .ok (.goto (-225), 3) := by decide +kernel
theorem dX6_rank_314 : decode cX6_rank 314 = .ok (.iload 4, 2) := by decide +kernel
theorem dX6_rank_316 : decode cX6_rank 316 = .ok (.ireturn, 1) := by decide +kernel
set_option maxRecDepth 20000 in
theorem ggX6_meets_X6_rank : GoodIn wsX6_meets wsX6_rank := goodIn_r _ [5, 6, 7, 8, 9, 10, 4, 11, 12, 13, 14, 15, 16, 17, 18, 19, 20, 21, 22, 23, 24] (by decide +kernel) (by decide +kernel)
set_option maxRecDepth 20000 in
theorem gX6_meets_X6_rank : GoodIn wsX6_meets (wsV RX6 97 RX6 yX6_rank wsX6_rank) := goodIn_app (goodIn_of _ (by decide +kernel)) ggX6_meets_X6_rank
theorem dX6_meets_0 : decode cX6_meets 0 = .ok (.aload_n 0, 1) := by decide +kernel
theorem dX6_meets_1 : decode cX6_meets 1 = .ok (.iload_n 1, 1) := by decide +kernel
theorem dX6_meets_2 : decode cX6_meets 2 = .ok (.iconst 4, 1) := by decide +kernel
theorem dX6_meets_3 : decode cX6_meets 3 = .ok (.invokevirtual 97, 3) := by decide +kernel
theorem dX6_meets_6 : decode cX6_meets 6 = .ok (.aload_n 0, 1) := by decide +kernel
theorem dX6_meets_7 : decode cX6_meets 7 = .ok (.iload_n 1, 1) := by decide +kernel
theorem dX6_meets_8 : decode cX6_meets 8 = .ok (.iconst 3, 1) := by decide +kernel
theorem dX6_meets_9 : decode cX6_meets 9 = .ok (.invokevirtual 97, 3) := by decide +kernel
theorem dX6_meets_12 : decode cX6_meets 12 = .ok (.if_icmp .ne 7, 3) := by decide +kernel
theorem dX6_meets_15 : decode cX6_meets 15 = .ok (.iconst 1, 1) := by decide +kernel
theorem dX6_meets_16 : decode cX6_meets 16 = .ok (.goto 4, 3) := by decide +kernel
theorem dX6_meets_19 : decode cX6_meets 19 = .ok (.iconst 0, 1) := by decide +kernel
theorem dX6_meets_20 : decode cX6_meets 20 = .ok (.ireturn, 1) := by decide +kernel
set_option maxRecDepth 20000 in
theorem ggX6_onWalls_X6_sign : GoodIn wsX6_onWalls wsX6_sign := goodIn_r _ [5, 6, 7, 4, 8] (by decide +kernel) (by decide +kernel)
set_option maxRecDepth 20000 in
theorem gX6_onWalls_X6_sign : GoodIn wsX6_onWalls (va_wsS RX6 79 yX6_sign wsX6_sign) := goodIn_app (goodIn_of _ (by decide +kernel)) ggX6_onWalls_X6_sign
theorem dX6_onWalls_0 : decode cX6_onWalls 0 = .ok (.iconst 0, 1) := by decide +kernel
theorem dX6_onWalls_1 : decode cX6_onWalls 1 = .ok (.istore_n 2, 1) := by decide +kernel
theorem dX6_onWalls_2 : decode cX6_onWalls 2 = .ok (.iconst 0, 1) := by decide +kernel
theorem dX6_onWalls_3 : decode cX6_onWalls 3 = .ok (.istore_n 3, 1) := by decide +kernel
theorem dX6_onWalls_4 : decode cX6_onWalls 4 = .ok (.iload_n 3, 1) := by decide +kernel
theorem dX6_onWalls_5 : decode cX6_onWalls 5 = .ok (.aload_n 0, 1) := by decide +kernel
theorem dX6_onWalls_6 : decode cX6_onWalls 6 = .ok (.getfield 49, 3) := by decide +kernel
theorem dX6_onWalls_9 : decode cX6_onWalls 9 = .ok (.if_icmp .ge 28, 3) := by decide +kernel
theorem dX6_onWalls_12 : decode cX6_onWalls 12 = .ok (.iload_n 2, 1) := by decide +kernel
theorem dX6_onWalls_13 : decode cX6_onWalls 13 = .ok (.iload_n 1, 1) := by decide +kernel
theorem dX6_onWalls_14 : decode cX6_onWalls 14 = .ok (.iload_n 3, 1) := by decide +kernel
theorem dX6_onWalls_15 : decode cX6_onWalls 15 = .ok (.invokestatic 79, 3) := by decide +kernel
theorem dX6_onWalls_18 : decode cX6_onWalls 18 = .ok (.iconst 1, 1) := by decide +kernel
theorem dX6_onWalls_19 : decode cX6_onWalls 19 = .ok (.if_icmp .ne 9, 3) := by decide +kernel
theorem dX6_onWalls_22 : decode cX6_onWalls 22 = .ok (.iconst 1, 1) := by decide +kernel
theorem dX6_onWalls_23 : decode cX6_onWalls 23 = .ok (.iload_n 3, 1) := by decide +kernel
theorem dX6_onWalls_24 : decode cX6_onWalls 24 = .ok (.ishl, 1) := by decide +kernel
theorem dX6_onWalls_25 : decode cX6_onWalls 25 = .ok (.goto 4, 3) := by decide +kernel
theorem dX6_onWalls_28 : decode cX6_onWalls 28 = .ok (.iconst 0, 1) := by decide +kernel
theorem dX6_onWalls_29 : decode cX6_onWalls 29 = .ok (.ior, 1) := by decide +kernel
theorem dX6_onWalls_30 : decode cX6_onWalls 30 = .ok (.istore_n 2, 1) := by decide +kernel
theorem dX6_onWalls_31 : decode cX6_onWalls 31 = .ok (.iinc 3 1, 3) := by decide +kernel
theorem dX6_onWalls_34 : decode cX6_onWalls 34 = .ok (.goto (-30), 3) := by decide +kernel
theorem dX6_onWalls_37 : decode cX6_onWalls 37 = .ok (.iload_n 2, 1) := by decide +kernel
theorem dX6_onWalls_38 : decode cX6_onWalls 38 = .ok (.ireturn, 1) := by decide +kernel
set_option maxRecDepth 20000 in
theorem ggX6_width_X6_isFace : GoodIn wsX6_width wsX6_isFace := goodIn_r _ [6, 7, 8, 9, 10, 5, 11, 12, 13, 14, 15, 16, 17, 18, 19, 20, 1, 21, 22, 23, 24, 25, 26, 27, 28, 29, 30, 31, 32, 33, 34, 35, 36, 37, 38, 39, 40, 41, 42, 43, 44, 45, 46, 47, 48, 49, 50, 51, 52, 53, 54, 55, 56, 66, 67, 68, 69, 70, 71, 72, 73, 74, 75, 76, 77] (by decide +kernel) (by decide +kernel)
set_option maxRecDepth 20000 in
theorem gX6_width_X6_isFace : GoodIn wsX6_width (wsV RX6 100 RX6 yX6_isFace wsX6_isFace) := goodIn_app (goodIn_of _ (by decide +kernel)) ggX6_width_X6_isFace
set_option maxRecDepth 20000 in
theorem ggX6_width_X6_onWalls : GoodIn wsX6_width wsX6_onWalls := goodIn_r _ [60, 13, 28, 29, 5, 30, 14, 15, 16, 66, 67, 68, 69, 70, 71, 72, 73, 74, 75, 76, 77] (by decide +kernel) (by decide +kernel)
set_option maxRecDepth 20000 in
theorem gX6_width_X6_onWalls : GoodIn wsX6_width (wsV RX6 103 RX6 yX6_onWalls wsX6_onWalls) := goodIn_app (goodIn_of _ (by decide +kernel)) ggX6_width_X6_onWalls
set_option maxRecDepth 20000 in
theorem ggX6_width_X6_rank : GoodIn wsX6_width wsX6_rank := goodIn_r _ [64, 13, 65, 35, 36, 37, 5, 38, 39, 66, 67, 68, 69, 70, 71, 72, 73, 74, 75, 76, 77] (by decide +kernel) (by decide +kernel)
set_option maxRecDepth 20000 in
theorem gX6_width_X6_rank : GoodIn wsX6_width (wsV RX6 97 RX6 yX6_rank wsX6_rank) := goodIn_app (goodIn_of _ (by decide +kernel)) ggX6_width_X6_rank
theorem dX6_width_0 : decode cX6_width 0 = .ok (.aload_n 0, 1) := by decide +kernel
theorem dX6_width_1 : decode cX6_width 1 = .ok (.iload_n 1, 1) := by decide +kernel
theorem dX6_width_2 : decode cX6_width 2 = .ok (.invokevirtual 100, 3) := by decide +kernel
theorem dX6_width_5 : decode cX6_width 5 = .ok (.ifCond .eq 21, 3) := by decide +kernel
theorem dX6_width_8 : decode cX6_width 8 = .ok (.aload_n 0, 1) := by decide +kernel
theorem dX6_width_9 : decode cX6_width 9 = .ok (.getfield 37, 3) := by decide +kernel
theorem dX6_width_12 : decode cX6_width 12 = .ok (.aload_n 0, 1) := by decide +kernel
theorem dX6_width_13 : decode cX6_width 13 = .ok (.aload_n 0, 1) := by decide +kernel
theorem dX6_width_14 : decode cX6_width 14 = .ok (.iload_n 1, 1) := by decide +kernel
theorem dX6_width_15 : decode cX6_width 15 = .ok (.invokevirtual 103, 3) := by decide +kernel
theorem dX6_width_18 : decode cX6_width 18 = .ok (.iconst 3, 1) := by decide +kernel
theorem dX6_width_19 : decode cX6_width 19 = .ok (.invokevirtual 97, 3) := by decide +kernel
theorem dX6_width_22 : decode cX6_width 22 = .ok (.isub, 1) := by decide +kernel
theorem dX6_width_23 : decode cX6_width 23 = .ok (.goto 4, 3) := by decide +kernel
theorem dX6_width_26 : decode cX6_width 26 = .ok (.iconst (-1), 1) := by decide +kernel
theorem dX6_width_27 : decode cX6_width 27 = .ok (.ireturn, 1) := by decide +kernel
set_option maxRecDepth 20000 in
theorem ggX6_faces_X6_in : GoodIn wsX6_faces wsX6_in := goodIn_r _ [6] (by decide +kernel) (by decide +kernel)
set_option maxRecDepth 20000 in
theorem gX6_faces_X6_in : GoodIn wsX6_faces (va_wsS RX6 45 yX6_in wsX6_in) := goodIn_app (goodIn_of _ (by decide +kernel)) ggX6_faces_X6_in
set_option maxRecDepth 20000 in
theorem ggX6_faces_X6_power : GoodIn wsX6_faces wsX6_power := goodIn_r _ [9] (by decide +kernel) (by decide +kernel)
set_option maxRecDepth 20000 in
theorem gX6_faces_X6_power : GoodIn wsX6_faces (va_wsS RX6 56 yX6_power wsX6_power) := goodIn_app (goodIn_of _ (by decide +kernel)) ggX6_faces_X6_power
set_option maxRecDepth 20000 in
theorem ggX6_faces_X6_width : GoodIn wsX6_faces wsX6_width := goodIn_r _ [13, 1, 14, 15, 16, 5, 17, 18, 19, 20, 21, 22, 23, 2, 7, 8, 9, 24, 25, 26, 27, 28, 29, 30, 31, 32, 33, 34, 35, 36, 37, 38, 39, 40, 41, 42, 43, 44, 45, 46, 47, 48, 49, 50, 51, 52, 53, 54, 55, 56, 57, 58, 59, 60, 3, 4, 6, 61, 62, 63, 64, 65, 66, 67, 68, 69, 70, 71, 72, 73, 74, 75, 76, 77, 78, 79, 80, 81] (by decide +kernel) (by decide +kernel)
set_option maxRecDepth 20000 in
theorem gX6_faces_X6_width : GoodIn wsX6_faces (wsV RX6 106 RX6 yX6_width wsX6_width) := goodIn_app (goodIn_of _ (by decide +kernel)) ggX6_faces_X6_width
theorem dX6_faces_0 : decode cX6_faces 0 = .ok (.iload_n 1, 1) := by decide +kernel
theorem dX6_faces_1 : decode cX6_faces 1 = .ok (.iconst 0, 1) := by decide +kernel
theorem dX6_faces_2 : decode cX6_faces 2 = .ok (.aload_n 0, 1) := by decide +kernel
theorem dX6_faces_3 : decode cX6_faces 3 = .ok (.getfield 37, 3) := by decide +kernel
theorem dX6_faces_6 : decode cX6_faces 6 = .ok (.invokestatic 45, 3) := by decide +kernel
theorem dX6_faces_9 : decode cX6_faces 9 = .ok (.ifCond .ne 5, 3) := by decide +kernel
theorem dX6_faces_12 : decode cX6_faces 12 = .ok (.iconst (-1), 1) := by decide +kernel
theorem dX6_faces_13 : decode cX6_faces 13 = .ok (.ireturn, 1) := by decide +kernel
theorem dX6_faces_14 : decode cX6_faces 14 = .ok (.iconst 0, 1) := by decide +kernel
theorem dX6_faces_15 : decode cX6_faces 15 = .ok (.istore_n 2, 1) := by decide +kernel
theorem dX6_faces_16 : decode cX6_faces 16 = .ok (.iconst 0, 1) := by decide +kernel
theorem dX6_faces_17 : decode cX6_faces 17 = .ok (.istore_n 3, 1) := by decide +kernel
theorem dX6_faces_18 : decode cX6_faces 18 = .ok (.iload_n 3, 1) := by decide +kernel
theorem dX6_faces_19 : decode cX6_faces 19 = .ok (.aload_n 0, 1) := by decide +kernel
theorem dX6_faces_20 : decode cX6_faces 20 = .ok (.getfield 49, 3) := by decide +kernel
theorem dX6_faces_23 : decode cX6_faces 23 = .ok (.invokestatic 56, 3) := by decide +kernel
theorem dX6_faces_26 : decode cX6_faces 26 = .ok (.if_icmp .ge 26, 3) := by decide +kernel
theorem dX6_faces_29 : decode cX6_faces 29 = .ok (.iload_n 2, 1) := by decide +kernel
theorem dX6_faces_30 : decode cX6_faces 30 = .ok (.aload_n 0, 1) := by decide +kernel
theorem dX6_faces_31 : decode cX6_faces 31 = .ok (.iload_n 3, 1) := by decide +kernel
theorem dX6_faces_32 : decode cX6_faces 32 = .ok (.invokevirtual 106, 3) := by decide +kernel
theorem dX6_faces_35 : decode cX6_faces 35 = .ok (.iload_n 1, 1) := by decide +kernel
theorem dX6_faces_36 : decode cX6_faces 36 = .ok (.if_icmp .ne 7, 3) := by decide +kernel
theorem dX6_faces_39 : decode cX6_faces 39 = .ok (.iconst 1, 1) := by decide +kernel
theorem dX6_faces_40 : decode cX6_faces 40 = .ok (.goto 4, 3) := by decide +kernel
theorem dX6_faces_43 : decode cX6_faces 43 = .ok (.iconst 0, 1) := by decide +kernel
theorem dX6_faces_44 : decode cX6_faces 44 = .ok (.iadd, 1) := by decide +kernel
theorem dX6_faces_45 : decode cX6_faces 45 = .ok (.istore_n 2, 1) := by decide +kernel
theorem dX6_faces_46 : decode cX6_faces 46 = .ok (.iinc 3 1, 3) := by decide +kernel
theorem dX6_faces_49 : decode cX6_faces 49 = .ok (.goto (-31), 3) := by decide +kernel
theorem dX6_faces_52 : decode cX6_faces 52 = .ok (.iload_n 2, 1) := by decide +kernel
theorem dX6_faces_53 : decode cX6_faces 53 = .ok (.ireturn, 1) := by decide +kernel
set_option maxRecDepth 20000 in
theorem ggX6_face_X6_in : GoodIn wsX6_face wsX6_in := goodIn_r _ [6] (by decide +kernel) (by decide +kernel)
set_option maxRecDepth 20000 in
theorem gX6_face_X6_in : GoodIn wsX6_face (va_wsS RX6 45 yX6_in wsX6_in) := goodIn_app (goodIn_of _ (by decide +kernel)) ggX6_face_X6_in
set_option maxRecDepth 20000 in
theorem ggX6_face_X6_power : GoodIn wsX6_face wsX6_power := goodIn_r _ [9] (by decide +kernel) (by decide +kernel)
set_option maxRecDepth 20000 in
theorem gX6_face_X6_power : GoodIn wsX6_face (va_wsS RX6 56 yX6_power wsX6_power) := goodIn_app (goodIn_of _ (by decide +kernel)) ggX6_face_X6_power
set_option maxRecDepth 20000 in
theorem ggX6_face_X6_width : GoodIn wsX6_face wsX6_width := goodIn_r _ [13, 1, 14, 15, 16, 5, 17, 18, 19, 20, 21, 22, 23, 2, 7, 8, 9, 24, 25, 26, 27, 28, 29, 30, 31, 32, 33, 34, 35, 36, 37, 38, 39, 40, 41, 42, 43, 44, 45, 46, 47, 48, 49, 50, 51, 52, 53, 54, 55, 56, 57, 58, 59, 60, 3, 4, 6, 61, 62, 63, 64, 65, 66, 67, 68, 69, 70, 71, 72, 73, 74, 75, 76, 77, 78, 79, 80, 81] (by decide +kernel) (by decide +kernel)
set_option maxRecDepth 20000 in
theorem gX6_face_X6_width : GoodIn wsX6_face (wsV RX6 106 RX6 yX6_width wsX6_width) := goodIn_app (goodIn_of _ (by decide +kernel)) ggX6_face_X6_width
theorem dX6_face_0 : decode cX6_face 0 = .ok (.iload_n 1, 1) := by decide +kernel
theorem dX6_face_1 : decode cX6_face 1 = .ok (.iconst 0, 1) := by decide +kernel
theorem dX6_face_2 : decode cX6_face 2 = .ok (.aload_n 0, 1) := by decide +kernel
theorem dX6_face_3 : decode cX6_face 3 = .ok (.getfield 37, 3) := by decide +kernel
theorem dX6_face_6 : decode cX6_face 6 = .ok (.invokestatic 45, 3) := by decide +kernel
theorem dX6_face_9 : decode cX6_face 9 = .ok (.ifCond .eq 7, 3) := by decide +kernel
theorem dX6_face_12 : decode cX6_face 12 = .ok (.iload_n 2, 1) := by decide +kernel
theorem dX6_face_13 : decode cX6_face 13 = .ok (.ifCond .ge 5, 3) := by decide +kernel
theorem dX6_face_16 : decode cX6_face 16 = .ok (.iconst (-1), 1) := by decide +kernel
theorem dX6_face_17 : decode cX6_face 17 = .ok (.ireturn, 1) := by decide +kernel
theorem dX6_face_18 : decode cX6_face 18 = .ok (.iload_n 2, 1) := by decide +kernel
theorem dX6_face_19 : decode cX6_face 19 = .ok (.istore_n 3, 1) := by decide +kernel
theorem dX6_face_20 : decode cX6_face 20 = .ok (.iconst 0, 1) := by decide +kernel
theorem dX6_face_21 : decode cX6_face 21 = .ok (.istore 4, 2) := by decide +kernel
theorem dX6_face_23 : decode cX6_face 23 = .ok (.iload 4, 2) := by decide +kernel
theorem dX6_face_25 : decode cX6_face 25 = .ok (.aload_n 0, 1) := by decide +kernel
theorem dX6_face_26 : decode cX6_face 26 = .ok (.getfield 49, 3) := by decide +kernel
theorem dX6_face_29 : decode cX6_face 29 = .ok (.invokestatic 56, 3) := by decide +kernel
theorem dX6_face_32 : decode cX6_face 32 = .ok (.if_icmp .ge 32, 3) := by decide +kernel
theorem dX6_face_35 : decode cX6_face 35 = .ok (.aload_n 0, 1) := by decide +kernel
theorem dX6_face_36 : decode cX6_face 36 = .ok (.iload 4, 2) := by decide +kernel
theorem dX6_face_38 : decode cX6_face 38 = .ok (.invokevirtual 106, 3) := by decide +kernel
theorem dX6_face_41 : decode cX6_face 41 = .ok (.iload_n 1, 1) := by decide +kernel
theorem dX6_face_42 : decode cX6_face 42 = .ok (.if_icmp .eq 6, 3) := by decide +kernel
theorem dX6_face_45 : decode cX6_face 45 = .ok (.goto 13, 3) := by decide +kernel
theorem dX6_face_48 : decode cX6_face 48 = .ok (.iload_n 3, 1) := by decide +kernel
theorem dX6_face_49 : decode cX6_face 49 = .ok (.ifCond .ne 6, 3) := by decide +kernel
theorem dX6_face_52 : decode cX6_face 52 = .ok (.iload 4, 2) := by decide +kernel
theorem dX6_face_54 : decode cX6_face 54 = .ok (.ireturn, 1) := by decide +kernel
theorem dX6_face_55 : decode cX6_face 55 = .ok (.iinc 3 (-1), 3) := by decide +kernel
theorem dX6_face_58 : decode cX6_face 58 = .ok (.iinc 4 1, 3) := by decide +kernel
theorem dX6_face_61 : decode cX6_face 61 = .ok (.goto (-38), 3) := by decide +kernel
theorem dX6_face_64 : decode cX6_face 64 = .ok (.iconst (-1), 1) := by decide +kernel
theorem dX6_face_65 : decode cX6_face 65 = .ok (.ireturn, 1) := by decide +kernel
set_option maxRecDepth 20000 in
theorem ggX6_isRoom_X6_isFace : GoodIn wsX6_isRoom wsX6_isFace := goodIn_r _ [5, 6, 7, 8, 9, 4, 10, 11, 12, 13, 14, 15, 16, 17, 18, 19, 20, 21, 22, 23, 24, 25, 26, 27, 28, 29, 30, 31, 32, 33, 34, 35, 36, 37, 38, 39, 40, 41, 42, 43, 44, 45, 46, 47, 48, 49, 50, 51, 52, 53, 54, 55, 56, 61, 62, 63, 64, 65, 66, 67, 68, 69, 70, 71, 72] (by decide +kernel) (by decide +kernel)
set_option maxRecDepth 20000 in
theorem gX6_isRoom_X6_isFace : GoodIn wsX6_isRoom (wsV RX6 100 RX6 yX6_isFace wsX6_isFace) := goodIn_app (goodIn_of _ (by decide +kernel)) ggX6_isRoom_X6_isFace
set_option maxRecDepth 20000 in
theorem ggX6_isRoom_X6_onWalls : GoodIn wsX6_isRoom wsX6_onWalls := goodIn_r _ [60, 12, 28, 29, 4, 30, 13, 14, 15, 61, 62, 63, 64, 65, 66, 67, 68, 69, 70, 71, 72] (by decide +kernel) (by decide +kernel)
set_option maxRecDepth 20000 in
theorem gX6_isRoom_X6_onWalls : GoodIn wsX6_isRoom (wsV RX6 103 RX6 yX6_onWalls wsX6_onWalls) := goodIn_app (goodIn_of _ (by decide +kernel)) ggX6_isRoom_X6_onWalls
end
section
theorem dX6_isRoom_0 : decode cX6_isRoom 0 = .ok (.aload_n 0, 1) := by decide +kernel
theorem dX6_isRoom_1 : decode cX6_isRoom 1 = .ok (.iload_n 1, 1) := by decide +kernel
theorem dX6_isRoom_2 : decode cX6_isRoom 2 = .ok (.invokevirtual 100, 3) := by decide +kernel
theorem dX6_isRoom_5 : decode cX6_isRoom 5 = .ok (.ifCond .eq 15, 3) := by decide +kernel
theorem dX6_isRoom_8 : decode cX6_isRoom 8 = .ok (.aload_n 0, 1) := by decide +kernel
theorem dX6_isRoom_9 : decode cX6_isRoom 9 = .ok (.iload_n 1, 1) := by decide +kernel
theorem dX6_isRoom_10 : decode cX6_isRoom 10 = .ok (.invokevirtual 103, 3) := by decide +kernel
theorem dX6_isRoom_13 : decode cX6_isRoom 13 = .ok (.ifCond .ne 7, 3) := by decide +kernel
theorem dX6_isRoom_16 : decode cX6_isRoom 16 = .ok (.iconst 1, 1) := by decide +kernel
theorem dX6_isRoom_17 : decode cX6_isRoom 17 = .ok (.goto 4, 3) := by decide +kernel
theorem dX6_isRoom_20 : decode cX6_isRoom 20 = .ok (.iconst 0, 1) := by decide +kernel
theorem dX6_isRoom_21 : decode cX6_isRoom 21 = .ok (.ireturn, 1) := by decide +kernel
set_option maxRecDepth 20000 in
theorem ggX6_leadsOn_X6_at : GoodIn wsX6_leadsOn wsX6_at := goodIn_r _ [6, 7, 14, 15, 16, 17, 18, 19, 20, 21, 22, 23, 24, 25] (by decide +kernel) (by decide +kernel)
set_option maxRecDepth 20000 in
theorem gX6_leadsOn_X6_at : GoodIn wsX6_leadsOn (wsV RX6 41 RX6 yX6_at wsX6_at) := goodIn_app (goodIn_of _ (by decide +kernel)) ggX6_leadsOn_X6_at
set_option maxRecDepth 20000 in
theorem ggX6_leadsOn_X6_sign : GoodIn wsX6_leadsOn wsX6_sign := goodIn_r _ [10, 11, 12, 5, 13] (by decide +kernel) (by decide +kernel)
set_option maxRecDepth 20000 in
theorem gX6_leadsOn_X6_sign : GoodIn wsX6_leadsOn (va_wsS RX6 79 yX6_sign wsX6_sign) := goodIn_app (goodIn_of _ (by decide +kernel)) ggX6_leadsOn_X6_sign
theorem dX6_leadsOn_0 : decode cX6_leadsOn 0 = .ok (.iload_n 2, 1) := by decide +kernel
theorem dX6_leadsOn_1 : decode cX6_leadsOn 1 = .ok (.ifCond .ne 14, 3) := by decide +kernel
theorem dX6_leadsOn_4 : decode cX6_leadsOn 4 = .ok (.iload_n 3, 1) := by decide +kernel
theorem dX6_leadsOn_5 : decode cX6_leadsOn 5 = .ok (.ifCond .ne 10, 3) := by decide +kernel
theorem dX6_leadsOn_8 : decode cX6_leadsOn 8 = .ok (.iload 4, 2) := by decide +kernel
theorem dX6_leadsOn_10 : decode cX6_leadsOn 10 = .ok (.ifCond .ne 5, 3) := by decide +kernel
theorem dX6_leadsOn_13 : decode cX6_leadsOn 13 = .ok (.iconst 0, 1) := by decide +kernel
theorem dX6_leadsOn_14 : decode cX6_leadsOn 14 = .ok (.ireturn, 1) := by decide +kernel
theorem dX6_leadsOn_15 : decode cX6_leadsOn 15 = .ok (.iconst 0, 1) := by decide +kernel
theorem dX6_leadsOn_16 : decode cX6_leadsOn 16 = .ok (.istore 5, 2) := by decide +kernel
theorem dX6_leadsOn_18 : decode cX6_leadsOn 18 = .ok (.iload 5, 2) := by decide +kernel
theorem dX6_leadsOn_20 : decode cX6_leadsOn 20 = .ok (.aload_n 0, 1) := by decide +kernel
theorem dX6_leadsOn_21 : decode cX6_leadsOn 21 = .ok (.getfield 49, 3) := by decide +kernel
theorem dX6_leadsOn_24 : decode cX6_leadsOn 24 = .ok (.if_icmp .ge 65, 3) := by decide +kernel
theorem dX6_leadsOn_27 : decode cX6_leadsOn 27 = .ok (.aload_n 0, 1) := by decide +kernel
theorem dX6_leadsOn_28 : decode cX6_leadsOn 28 = .ok (.iload 5, 2) := by decide +kernel
theorem dX6_leadsOn_30 : decode cX6_leadsOn 30 = .ok (.iconst 0, 1) := by decide +kernel
theorem dX6_leadsOn_31 : decode cX6_leadsOn 31 = .ok (.invokevirtual 41, 3) := by decide +kernel
theorem dX6_leadsOn_34 : decode cX6_leadsOn 34 = .ok (.iload_n 2, 1) := by decide +kernel
theorem dX6_leadsOn_35 : decode cX6_leadsOn 35 = .ok (.imul, 1) := by decide +kernel
theorem dX6_leadsOn_36 : decode cX6_leadsOn 36 = .ok (.aload_n 0, 1) := by decide +kernel
theorem dX6_leadsOn_37 : decode cX6_leadsOn 37 = .ok (.iload 5, 2) := by decide +kernel
theorem dX6_leadsOn_39 : decode cX6_leadsOn 39 = .ok (.iconst 1, 1) := by decide +kernel
theorem dX6_leadsOn_40 : decode cX6_leadsOn 40 = .ok (.invokevirtual 41, 3) := by decide +kernel
theorem dX6_leadsOn_43 : decode cX6_leadsOn 43 = .ok (.iload_n 3, 1) := by decide +kernel
theorem dX6_leadsOn_44 : decode cX6_leadsOn 44 = .ok (.imul, 1) := by decide +kernel
theorem dX6_leadsOn_45 : decode cX6_leadsOn 45 = .ok (.iadd, 1) := by decide +kernel
theorem dX6_leadsOn_46 : decode cX6_leadsOn 46 = .ok (.aload_n 0, 1) := by decide +kernel
theorem dX6_leadsOn_47 : decode cX6_leadsOn 47 = .ok (.iload 5, 2) := by decide +kernel
theorem dX6_leadsOn_49 : decode cX6_leadsOn 49 = .ok (.iconst 2, 1) := by decide +kernel
theorem dX6_leadsOn_50 : decode cX6_leadsOn 50 = .ok (.invokevirtual 41, 3) := by decide +kernel
theorem dX6_leadsOn_53 : decode cX6_leadsOn 53 = .ok (.iload 4, 2) := by decide +kernel
theorem dX6_leadsOn_55 : decode cX6_leadsOn 55 = .ok (.imul, 1) := by decide +kernel
theorem dX6_leadsOn_56 : decode cX6_leadsOn 56 = .ok (.iadd, 1) := by decide +kernel
theorem dX6_leadsOn_57 : decode cX6_leadsOn 57 = .ok (.istore 6, 2) := by decide +kernel
theorem dX6_leadsOn_59 : decode cX6_leadsOn 59 = .ok (.iload_n 1, 1) := by decide +kernel
theorem dX6_leadsOn_60 : decode cX6_leadsOn 60 = .ok (.iload 5, 2) := by decide +kernel
theorem dX6_leadsOn_62 : decode cX6_leadsOn 62 = .ok (.invokestatic 79, 3) := by decide +kernel
theorem dX6_leadsOn_65 : decode cX6_leadsOn 65 = .ok (.ifCond .ne 11, 3) := by decide +kernel
theorem dX6_leadsOn_68 : decode cX6_leadsOn 68 = .ok (.iload 6, 2) := by decide +kernel
theorem dX6_leadsOn_70 : decode cX6_leadsOn 70 = .ok (.ifCond .le 13, 3) := by decide +kernel
theorem dX6_leadsOn_73 : decode cX6_leadsOn 73 = .ok (.goto 8, 3) := by decide +kernel
theorem dX6_leadsOn_76 : decode cX6_leadsOn 76 = .ok (.iload 6, 2) := by decide +kernel
theorem dX6_leadsOn_78 : decode cX6_leadsOn 78 = .ok (.ifCond .ge 5, 3) := by decide +kernel
theorem dX6_leadsOn_81 : decode cX6_leadsOn 81 = .ok (.iconst 0, 1) := by decide +kernel
theorem dX6_leadsOn_82 : decode cX6_leadsOn 82 = .ok (.ireturn, 1) := by decide +kernel
theorem dX6_leadsOn_83 : decode cX6_leadsOn 83 = .ok (.iinc 5 1, 3) := by decide +kernel
theorem dX6_leadsOn_86 : decode cX6_leadsOn 86 = .ok (.goto (-68), 3) := by decide +kernel
theorem dX6_leadsOn_89 : decode cX6_leadsOn 89 = .ok (.iconst 1, 1) := by decide +kernel
theorem dX6_leadsOn_90 : decode cX6_leadsOn 90 = .ok (.ireturn, 1) := by decide +kernel
set_option maxRecDepth 20000 in
theorem ggX6_leadsEither_X6_leadsOn : GoodIn wsX6_leadsEither wsX6_leadsOn := goodIn_r _ [5, 6, 7, 8, 9, 4, 10, 11, 12, 13, 14, 15, 16, 17, 18, 19, 20, 21, 22, 23, 24, 25, 26, 27, 28, 29] (by decide +kernel) (by decide +kernel)
set_option maxRecDepth 20000 in
theorem gX6_leadsEither_X6_leadsOn : GoodIn wsX6_leadsEither (wsV RX6 109 RX6 yX6_leadsOn wsX6_leadsOn) := goodIn_app (goodIn_of _ (by decide +kernel)) ggX6_leadsEither_X6_leadsOn
theorem dX6_leadsEither_0 : decode cX6_leadsEither 0 = .ok (.aload_n 0, 1) := by decide +kernel
theorem dX6_leadsEither_1 : decode cX6_leadsEither 1 = .ok (.iload_n 1, 1) := by decide +kernel
theorem dX6_leadsEither_2 : decode cX6_leadsEither 2 = .ok (.iload_n 2, 1) := by decide +kernel
theorem dX6_leadsEither_3 : decode cX6_leadsEither 3 = .ok (.iload_n 3, 1) := by decide +kernel
theorem dX6_leadsEither_4 : decode cX6_leadsEither 4 = .ok (.iload 4, 2) := by decide +kernel
theorem dX6_leadsEither_6 : decode cX6_leadsEither 6 = .ok (.invokevirtual 109, 3) := by decide +kernel
theorem dX6_leadsEither_9 : decode cX6_leadsEither 9 = .ok (.ifCond .ne 18, 3) := by decide +kernel
theorem dX6_leadsEither_12 : decode cX6_leadsEither 12 = .ok (.aload_n 0, 1) := by decide +kernel
theorem dX6_leadsEither_13 : decode cX6_leadsEither 13 = .ok (.iload_n 1, 1) := by decide +kernel
theorem dX6_leadsEither_14 : decode cX6_leadsEither 14 = .ok (.iload_n 2, 1) := by decide +kernel
theorem dX6_leadsEither_15 : decode cX6_leadsEither 15 = .ok (.ineg, 1) := by decide +kernel
theorem dX6_leadsEither_16 : decode cX6_leadsEither 16 = .ok (.iload_n 3, 1) := by decide +kernel
theorem dX6_leadsEither_17 : decode cX6_leadsEither 17 = .ok (.ineg, 1) := by decide +kernel
theorem dX6_leadsEither_18 : decode cX6_leadsEither 18 = .ok (.iload 4, 2) := by decide +kernel
theorem dX6_leadsEither_20 : decode cX6_leadsEither 20 = .ok (.ineg, 1) := by decide +kernel
theorem dX6_leadsEither_21 : decode cX6_leadsEither 21 = .ok (.invokevirtual 109, 3) := by decide +kernel
theorem dX6_leadsEither_24 : decode cX6_leadsEither 24 = .ok (.ifCond .eq 7, 3) := by decide +kernel
theorem dX6_leadsEither_27 : decode cX6_leadsEither 27 = .ok (.iconst 1, 1) := by decide +kernel
theorem dX6_leadsEither_28 : decode cX6_leadsEither 28 = .ok (.goto 4, 3) := by decide +kernel
theorem dX6_leadsEither_31 : decode cX6_leadsEither 31 = .ok (.iconst 0, 1) := by decide +kernel
theorem dX6_leadsEither_32 : decode cX6_leadsEither 32 = .ok (.ireturn, 1) := by decide +kernel
set_option maxRecDepth 20000 in
theorem ggX6_bounded_X6_isRoom : GoodIn wsX6_bounded wsX6_isRoom := goodIn_r _ [7, 8, 9, 10, 6, 11, 12, 13, 14, 15, 16, 17, 1, 18, 19, 20, 21, 22, 23, 24, 2, 25, 26, 27, 28, 29, 30, 31, 32, 33, 34, 35, 36, 37, 38, 39, 40, 41, 42, 43, 44, 45, 46, 47, 48, 49, 50, 51, 52, 53, 54, 55, 56, 57, 58, 59, 60, 61, 62, 63, 64, 78, 79, 80, 81, 82, 83, 84, 85, 86, 87, 88, 89] (by decide +kernel) (by decide +kernel)
set_option maxRecDepth 20000 in
theorem gX6_bounded_X6_isRoom : GoodIn wsX6_bounded (wsV RX6 113 RX6 yX6_isRoom wsX6_isRoom) := goodIn_app (goodIn_of _ (by decide +kernel)) ggX6_bounded_X6_isRoom
set_option maxRecDepth 20000 in
theorem ggX6_bounded_X6_rank : GoodIn wsX6_bounded wsX6_rank := goodIn_r _ [68, 1, 69, 39, 40, 41, 6, 42, 43, 78, 79, 80, 81, 82, 83, 84, 85, 86, 87, 88, 89] (by decide +kernel) (by decide +kernel)
set_option maxRecDepth 20000 in
theorem gX6_bounded_X6_rank : GoodIn wsX6_bounded (wsV RX6 97 RX6 yX6_rank wsX6_rank) := goodIn_app (goodIn_of _ (by decide +kernel)) ggX6_bounded_X6_rank
set_option maxRecDepth 20000 in
theorem ggX6_bounded_X6_leadsEither : GoodIn wsX6_bounded wsX6_leadsEither := goodIn_r _ [73, 74, 75, 76, 6, 77, 1, 39, 40, 41, 42, 43, 32, 33, 34, 18, 19, 20, 78, 79, 80, 81, 82, 83, 84, 85, 86, 87, 88, 89] (by decide +kernel) (by decide +kernel)
set_option maxRecDepth 20000 in
theorem gX6_bounded_X6_leadsEither : GoodIn wsX6_bounded (wsV RX6 116 RX6 yX6_leadsEither wsX6_leadsEither) := goodIn_app (goodIn_of _ (by decide +kernel)) ggX6_bounded_X6_leadsEither
set_option maxRecDepth 20000 in
theorem ggX6_bounded_X6_at : GoodIn wsX6_bounded wsX6_at := goodIn_r _ [42, 43, 78, 79, 80, 81, 82, 83, 84, 85, 86, 87, 88, 89] (by decide +kernel) (by decide +kernel)
set_option maxRecDepth 20000 in
theorem gX6_bounded_X6_at : GoodIn wsX6_bounded (wsV RX6 41 RX6 yX6_at wsX6_at) := goodIn_app (goodIn_of _ (by decide +kernel)) ggX6_bounded_X6_at
theorem dX6_bounded_0 : decode cX6_bounded 0 = .ok (.aload_n 0, 1) := by decide +kernel
theorem dX6_bounded_1 : decode cX6_bounded 1 = .ok (.iload_n 1, 1) := by decide +kernel
theorem dX6_bounded_2 : decode cX6_bounded 2 = .ok (.invokevirtual 113, 3) := by decide +kernel
theorem dX6_bounded_5 : decode cX6_bounded 5 = .ok (.ifCond .eq 23, 3) := by decide +kernel
theorem dX6_bounded_8 : decode cX6_bounded 8 = .ok (.aload_n 0, 1) := by decide +kernel
theorem dX6_bounded_9 : decode cX6_bounded 9 = .ok (.iconst 1, 1) := by decide +kernel
theorem dX6_bounded_10 : decode cX6_bounded 10 = .ok (.aload_n 0, 1) := by decide +kernel
theorem dX6_bounded_11 : decode cX6_bounded 11 = .ok (.getfield 49, 3) := by decide +kernel
theorem dX6_bounded_14 : decode cX6_bounded 14 = .ok (.ishl, 1) := by decide +kernel
theorem dX6_bounded_15 : decode cX6_bounded 15 = .ok (.iconst 1, 1) := by decide +kernel
theorem dX6_bounded_16 : decode cX6_bounded 16 = .ok (.isub, 1) := by decide +kernel
theorem dX6_bounded_17 : decode cX6_bounded 17 = .ok (.iconst 3, 1) := by decide +kernel
theorem dX6_bounded_18 : decode cX6_bounded 18 = .ok (.invokevirtual 97, 3) := by decide +kernel
theorem dX6_bounded_21 : decode cX6_bounded 21 = .ok (.aload_n 0, 1) := by decide +kernel
theorem dX6_bounded_22 : decode cX6_bounded 22 = .ok (.getfield 37, 3) := by decide +kernel
theorem dX6_bounded_25 : decode cX6_bounded 25 = .ok (.if_icmp .ge 5, 3) := by decide +kernel
theorem dX6_bounded_28 : decode cX6_bounded 28 = .ok (.iconst 0, 1) := by decide +kernel
theorem dX6_bounded_29 : decode cX6_bounded 29 = .ok (.ireturn, 1) := by decide +kernel
theorem dX6_bounded_30 : decode cX6_bounded 30 = .ok (.aload_n 0, 1) := by decide +kernel
theorem dX6_bounded_31 : decode cX6_bounded 31 = .ok (.getfield 37, 3) := by decide +kernel
theorem dX6_bounded_34 : decode cX6_bounded 34 = .ok (.iconst 1, 1) := by decide +kernel
theorem dX6_bounded_35 : decode cX6_bounded 35 = .ok (.if_icmp .ne 20, 3) := by decide +kernel
theorem dX6_bounded_38 : decode cX6_bounded 38 = .ok (.aload_n 0, 1) := by decide +kernel
theorem dX6_bounded_39 : decode cX6_bounded 39 = .ok (.iload_n 1, 1) := by decide +kernel
theorem dX6_bounded_40 : decode cX6_bounded 40 = .ok (.iconst 1, 1) := by decide +kernel
theorem dX6_bounded_41 : decode cX6_bounded 41 = .ok (.iconst 0, 1) := by decide +kernel
theorem dX6_bounded_42 : decode cX6_bounded 42 = .ok (.iconst 0, 1) := by decide +kernel
theorem dX6_bounded_43 : decode cX6_bounded 43 = .ok (.invokevirtual 116, 3) := by decide +kernel
theorem dX6_bounded_46 : decode cX6_bounded 46 = .ok (.ifCond .ne 7, 3) := by decide +kernel
theorem dX6_bounded_49 : decode cX6_bounded 49 = .ok (.iconst 1, 1) := by decide +kernel
theorem dX6_bounded_50 : decode cX6_bounded 50 = .ok (.goto 4, 3) := by decide +kernel
theorem dX6_bounded_53 : decode cX6_bounded 53 = .ok (.iconst 0, 1) := by decide +kernel
theorem dX6_bounded_54 : decode cX6_bounded 54 = .ok (.ireturn, 1) := by decide +kernel
theorem dX6_bounded_55 : decode cX6_bounded 55 = .ok (.iconst 0, 1) := by decide +kernel
theorem dX6_bounded_56 : decode cX6_bounded 56 = .ok (.istore_n 2, 1) := by decide +kernel
theorem dX6_bounded_57 : decode cX6_bounded 57 = .ok (.iload_n 2, 1) := by decide +kernel
theorem dX6_bounded_58 : decode cX6_bounded 58 = .ok (.aload_n 0, 1) := by decide +kernel
theorem dX6_bounded_59 : decode cX6_bounded 59 = .ok (.getfield 49, 3) := by decide +kernel
theorem dX6_bounded_62 : decode cX6_bounded 62 = .ok (.if_icmp .ge 157, 3) := by decide +kernel
theorem dX6_bounded_65 : decode cX6_bounded 65 = .ok (.aload_n 0, 1) := by decide +kernel
theorem dX6_bounded_66 : decode cX6_bounded 66 = .ok (.getfield 37, 3) := by decide +kernel
theorem dX6_bounded_69 : decode cX6_bounded 69 = .ok (.iconst 2, 1) := by decide +kernel
theorem dX6_bounded_70 : decode cX6_bounded 70 = .ok (.if_icmp .ne 27, 3) := by decide +kernel
theorem dX6_bounded_73 : decode cX6_bounded 73 = .ok (.aload_n 0, 1) := by decide +kernel
theorem dX6_bounded_74 : decode cX6_bounded 74 = .ok (.iload_n 1, 1) := by decide +kernel
theorem dX6_bounded_75 : decode cX6_bounded 75 = .ok (.aload_n 0, 1) := by decide +kernel
theorem dX6_bounded_76 : decode cX6_bounded 76 = .ok (.iload_n 2, 1) := by decide +kernel
theorem dX6_bounded_77 : decode cX6_bounded 77 = .ok (.iconst 1, 1) := by decide +kernel
theorem dX6_bounded_78 : decode cX6_bounded 78 = .ok (.invokevirtual 41, 3) := by decide +kernel
theorem dX6_bounded_81 : decode cX6_bounded 81 = .ok (.ineg, 1) := by decide +kernel
theorem dX6_bounded_82 : decode cX6_bounded 82 = .ok (.aload_n 0, 1) := by decide +kernel
theorem dX6_bounded_83 : decode cX6_bounded 83 = .ok (.iload_n 2, 1) := by decide +kernel
theorem dX6_bounded_84 : decode cX6_bounded 84 = .ok (.iconst 0, 1) := by decide +kernel
theorem dX6_bounded_85 : decode cX6_bounded 85 = .ok (.invokevirtual 41, 3) := by decide +kernel
theorem dX6_bounded_88 : decode cX6_bounded 88 = .ok (.iconst 0, 1) := by decide +kernel
theorem dX6_bounded_89 : decode cX6_bounded 89 = .ok (.invokevirtual 116, 3) := by decide +kernel
theorem dX6_bounded_92 : decode cX6_bounded 92 = .ok (.ifCond .eq 121, 3) := by decide +kernel
theorem dX6_bounded_95 : decode cX6_bounded 95 = .ok (.iconst 0, 1) := by decide +kernel
theorem dX6_bounded_96 : decode cX6_bounded 96 = .ok (.ireturn, 1) := by decide +kernel
theorem dX6_bounded_97 : decode cX6_bounded 97 = .ok (.iconst 0, 1) := by decide +kernel
theorem dX6_bounded_98 : decode cX6_bounded 98 = .ok (.istore_n 3, 1) := by decide +kernel
theorem dX6_bounded_99 : decode cX6_bounded 99 = .ok (.iload_n 3, 1) := by decide +kernel
theorem dX6_bounded_100 : decode cX6_bounded 100 = .ok (.iload_n 2, 1) := by decide +kernel
theorem dX6_bounded_101 : decode cX6_bounded 101 = .ok (.if_icmp .ge 112, 3) := by decide +kernel
theorem dX6_bounded_104 : decode cX6_bounded 104 = .ok (.aload_n 0, 1) := by decide +kernel
theorem dX6_bounded_105 : decode cX6_bounded 105 = .ok (.iload_n 2, 1) := by decide +kernel
theorem dX6_bounded_106 : decode cX6_bounded 106 = .ok (.iconst 1, 1) := by decide +kernel
theorem dX6_bounded_107 : decode cX6_bounded 107 = .ok (.invokevirtual 41, 3) := by decide +kernel
theorem dX6_bounded_110 : decode cX6_bounded 110 = .ok (.aload_n 0, 1) := by decide +kernel
theorem dX6_bounded_111 : decode cX6_bounded 111 = .ok (.iload_n 3, 1) := by decide +kernel
theorem dX6_bounded_112 : decode cX6_bounded 112 = .ok (.iconst 2, 1) := by decide +kernel
theorem dX6_bounded_113 : decode cX6_bounded 113 = .ok (.invokevirtual 41, 3) := by decide +kernel
theorem dX6_bounded_116 : decode cX6_bounded 116 = .ok (.imul, 1) := by decide +kernel
theorem dX6_bounded_117 : decode cX6_bounded 117 = .ok (.aload_n 0, 1) := by decide +kernel
theorem dX6_bounded_118 : decode cX6_bounded 118 = .ok (.iload_n 2, 1) := by decide +kernel
theorem dX6_bounded_119 : decode cX6_bounded 119 = .ok (.iconst 2, 1) := by decide +kernel
theorem dX6_bounded_120 : decode cX6_bounded 120 = .ok (.invokevirtual 41, 3) := by decide +kernel
theorem dX6_bounded_123 : decode cX6_bounded 123 = .ok (.aload_n 0, 1) := by decide +kernel
theorem dX6_bounded_124 : decode cX6_bounded 124 = .ok (.iload_n 3, 1) := by decide +kernel
theorem dX6_bounded_125 : decode cX6_bounded 125 = .ok (.iconst 1, 1) := by decide +kernel
theorem dX6_bounded_126 : decode cX6_bounded 126 = .ok (.invokevirtual 41, 3) := by decide +kernel
theorem dX6_bounded_129 : decode cX6_bounded 129 = .ok (.imul, 1) := by decide +kernel
theorem dX6_bounded_130 : decode cX6_bounded 130 = .ok (.isub, 1) := by decide +kernel
theorem dX6_bounded_131 : decode cX6_bounded 131 = .ok (.istore 4, 2) := by decide +kernel
theorem dX6_bounded_133 : decode cX6_bounded 133 = .ok (.aload_n 0, 1) := by decide +kernel
theorem dX6_bounded_134 : decode cX6_bounded 134 = .ok (.iload_n 2, 1) := by decide +kernel
theorem dX6_bounded_135 : decode cX6_bounded 135 = .ok (.iconst 2, 1) := by decide +kernel
theorem dX6_bounded_136 : decode cX6_bounded 136 = .ok (.invokevirtual 41, 3) := by decide +kernel
theorem dX6_bounded_139 : decode cX6_bounded 139 = .ok (.aload_n 0, 1) := by decide +kernel
theorem dX6_bounded_140 : decode cX6_bounded 140 = .ok (.iload_n 3, 1) := by decide +kernel
theorem dX6_bounded_141 : decode cX6_bounded 141 = .ok (.iconst 0, 1) := by decide +kernel
theorem dX6_bounded_142 : decode cX6_bounded 142 = .ok (.invokevirtual 41, 3) := by decide +kernel
theorem dX6_bounded_145 : decode cX6_bounded 145 = .ok (.imul, 1) := by decide +kernel
theorem dX6_bounded_146 : decode cX6_bounded 146 = .ok (.aload_n 0, 1) := by decide +kernel
theorem dX6_bounded_147 : decode cX6_bounded 147 = .ok (.iload_n 2, 1) := by decide +kernel
theorem dX6_bounded_148 : decode cX6_bounded 148 = .ok (.iconst 0, 1) := by decide +kernel
theorem dX6_bounded_149 : decode cX6_bounded 149 = .ok (.invokevirtual 41, 3) := by decide +kernel
theorem dX6_bounded_152 : decode cX6_bounded 152 = .ok (.aload_n 0, 1) := by decide +kernel
theorem dX6_bounded_153 : decode cX6_bounded 153 = .ok (.iload_n 3, 1) := by decide +kernel
theorem dX6_bounded_154 : decode cX6_bounded 154 = .ok (.iconst 2, 1) := by decide +kernel
theorem dX6_bounded_155 : decode cX6_bounded 155 = .ok (.invokevirtual 41, 3) := by decide +kernel
theorem dX6_bounded_158 : decode cX6_bounded 158 = .ok (.imul, 1) := by decide +kernel
theorem dX6_bounded_159 : decode cX6_bounded 159 = .ok (.isub, 1) := by decide +kernel
theorem dX6_bounded_160 : decode cX6_bounded 160 = .ok (.istore 5, 2) := by decide +kernel
theorem dX6_bounded_162 : decode cX6_bounded 162 = .ok (.aload_n 0, 1) := by decide +kernel
theorem dX6_bounded_163 : decode cX6_bounded 163 = .ok (.iload_n 2, 1) := by decide +kernel
theorem dX6_bounded_164 : decode cX6_bounded 164 = .ok (.iconst 0, 1) := by decide +kernel
theorem dX6_bounded_165 : decode cX6_bounded 165 = .ok (.invokevirtual 41, 3) := by decide +kernel
theorem dX6_bounded_168 : decode cX6_bounded 168 = .ok (.aload_n 0, 1) := by decide +kernel
theorem dX6_bounded_169 : decode cX6_bounded 169 = .ok (.iload_n 3, 1) := by decide +kernel
theorem dX6_bounded_170 : decode cX6_bounded 170 = .ok (.iconst 1, 1) := by decide +kernel
theorem dX6_bounded_171 : decode cX6_bounded 171 = .ok (.invokevirtual 41, 3) := by decide +kernel
theorem dX6_bounded_174 : decode cX6_bounded 174 = .ok (.imul, 1) := by decide +kernel
theorem dX6_bounded_175 : decode cX6_bounded 175 = .ok (.aload_n 0, 1) := by decide +kernel
theorem dX6_bounded_176 : decode cX6_bounded 176 = .ok (.iload_n 2, 1) := by decide +kernel
theorem dX6_bounded_177 : decode cX6_bounded 177 = .ok (.iconst 1, 1) := by decide +kernel
theorem dX6_bounded_178 : decode cX6_bounded 178 = .ok (.invokevirtual 41, 3) := by decide +kernel
theorem dX6_bounded_181 : decode cX6_bounded 181 = .ok (.aload_n 0, 1) := by decide +kernel
theorem dX6_bounded_182 : decode cX6_bounded 182 = .ok (.iload_n 3, 1) := by decide +kernel
theorem dX6_bounded_183 : decode cX6_bounded 183 = .ok (.iconst 0, 1) := by decide +kernel
theorem dX6_bounded_184 : decode cX6_bounded 184 = .ok (.invokevirtual 41, 3) := by decide +kernel
theorem dX6_bounded_187 : decode cX6_bounded 187 = .ok (.imul, 1) := by decide +kernel
theorem dX6_bounded_188 : decode cX6_bounded 188 = .ok (.isub, 1) := by decide +kernel
theorem dX6_bounded_189 : decode cX6_bounded 189 = .ok (.istore 6, 2) := by decide +kernel
theorem dX6_bounded_191 : decode cX6_bounded 191 = .ok (.aload_n 0, 1) := by decide +kernel
theorem dX6_bounded_192 : decode cX6_bounded 192 = .ok (.iload_n 1, 1) := by decide +kernel
theorem dX6_bounded_193 : decode cX6_bounded 193 = .ok (.iload 4, 2) := by decide +kernel
theorem dX6_bounded_195 : decode cX6_bounded 195 = .ok (.iload 5, 2) := by decide +kernel
theorem dX6_bounded_197 : decode cX6_bounded 197 = .ok (.iload 6, 2) := by decide +kernel
theorem dX6_bounded_199 : decode cX6_bounded 199 = .ok (.invokevirtual 116, 3) := by decide +kernel
theorem dX6_bounded_202 : decode cX6_bounded 202 = .ok (.ifCond .eq 5, 3) := by decide +kernel
theorem dX6_bounded_205 : decode cX6_bounded 205 = .ok (.iconst 0, 1) := by decide +kernel
theorem dX6_bounded_206 : decode cX6_bounded 206 = .ok (.ireturn, 1) := by decide +kernel
theorem dX6_bounded_207 : decode cX6_bounded 207 = .ok (.iinc 3 1, 3) := by decide +kernel
theorem dX6_bounded_210 : decode cX6_bounded 210 = .ok (.goto (-111), 3) := by decide +kernel
theorem dX6_bounded_213 : decode cX6_bounded 213 = .ok (.iinc 2 1, 3) := by decide +kernel
theorem dX6_bounded_216 : decode cX6_bounded 216 = .ok (.goto (-159), 3) := by decide +kernel
theorem dX6_bounded_219 : decode cX6_bounded 219 = .ok (.iconst 1, 1) := by decide +kernel
theorem dX6_bounded_220 : decode cX6_bounded 220 = .ok (.ireturn, 1) := by decide +kernel
set_option maxRecDepth 20000 in
theorem ggX6_boundedRooms_X6_power : GoodIn wsX6_boundedRooms wsX6_power := goodIn_r _ [5] (by decide +kernel) (by decide +kernel)
set_option maxRecDepth 20000 in
theorem gX6_boundedRooms_X6_power : GoodIn wsX6_boundedRooms (va_wsS RX6 56 yX6_power wsX6_power) := goodIn_app (goodIn_of _ (by decide +kernel)) ggX6_boundedRooms_X6_power
set_option maxRecDepth 20000 in
theorem ggX6_boundedRooms_X6_isRoom : GoodIn wsX6_boundedRooms wsX6_isRoom := goodIn_r _ [9, 10, 11, 12, 4, 13, 14, 15, 16, 17, 18, 19, 1, 2, 3, 5, 20, 21, 22, 23, 24, 25, 26, 27, 28, 29, 30, 31, 32, 33, 34, 35, 36, 37, 38, 39, 40, 41, 42, 43, 44, 45, 46, 47, 48, 49, 50, 51, 52, 53, 54, 55, 56, 57, 58, 59, 60, 61, 62, 63, 64, 82, 83, 84, 85, 86, 87, 88, 89, 90, 91, 92, 93] (by decide +kernel) (by decide +kernel)
set_option maxRecDepth 20000 in
theorem gX6_boundedRooms_X6_isRoom : GoodIn wsX6_boundedRooms (wsV RX6 113 RX6 yX6_isRoom wsX6_isRoom) := goodIn_app (goodIn_of _ (by decide +kernel)) ggX6_boundedRooms_X6_isRoom
set_option maxRecDepth 20000 in
theorem ggX6_boundedRooms_X6_bounded : GoodIn wsX6_boundedRooms wsX6_bounded := goodIn_r _ [68, 1, 24, 6, 7, 8, 4, 9, 10, 11, 12, 13, 14, 15, 16, 17, 18, 19, 2, 3, 5, 20, 21, 22, 23, 25, 26, 27, 28, 29, 30, 31, 32, 33, 34, 35, 36, 37, 38, 39, 40, 41, 42, 43, 44, 45, 46, 47, 48, 49, 50, 51, 52, 53, 54, 55, 56, 57, 58, 59, 60, 61, 62, 63, 64, 69, 70, 71, 72, 73, 74, 75, 76, 77, 78, 79, 80, 81, 82, 83, 84, 85, 86, 87, 88, 89, 90, 91, 92, 93] (by decide +kernel) (by decide +kernel)
set_option maxRecDepth 20000 in
theorem gX6_boundedRooms_X6_bounded : GoodIn wsX6_boundedRooms (wsV RX6 119 RX6 yX6_bounded wsX6_bounded) := goodIn_app (goodIn_of _ (by decide +kernel)) ggX6_boundedRooms_X6_bounded
theorem dX6_boundedRooms_0 : decode cX6_boundedRooms 0 = .ok (.iconst 0, 1) := by decide +kernel
theorem dX6_boundedRooms_1 : decode cX6_boundedRooms 1 = .ok (.istore_n 1, 1) := by decide +kernel
theorem dX6_boundedRooms_2 : decode cX6_boundedRooms 2 = .ok (.iconst 0, 1) := by decide +kernel
theorem dX6_boundedRooms_3 : decode cX6_boundedRooms 3 = .ok (.istore_n 2, 1) := by decide +kernel
theorem dX6_boundedRooms_4 : decode cX6_boundedRooms 4 = .ok (.iload_n 2, 1) := by decide +kernel
theorem dX6_boundedRooms_5 : decode cX6_boundedRooms 5 = .ok (.aload_n 0, 1) := by decide +kernel
theorem dX6_boundedRooms_6 : decode cX6_boundedRooms 6 = .ok (.getfield 49, 3) := by decide +kernel
theorem dX6_boundedRooms_9 : decode cX6_boundedRooms 9 = .ok (.invokestatic 56, 3) := by decide +kernel
theorem dX6_boundedRooms_12 : decode cX6_boundedRooms 12 = .ok (.if_icmp .ge 33, 3) := by decide +kernel
theorem dX6_boundedRooms_15 : decode cX6_boundedRooms 15 = .ok (.iload_n 1, 1) := by decide +kernel
theorem dX6_boundedRooms_16 : decode cX6_boundedRooms 16 = .ok (.aload_n 0, 1) := by decide +kernel
theorem dX6_boundedRooms_17 : decode cX6_boundedRooms 17 = .ok (.iload_n 2, 1) := by decide +kernel
theorem dX6_boundedRooms_18 : decode cX6_boundedRooms 18 = .ok (.invokevirtual 113, 3) := by decide +kernel
theorem dX6_boundedRooms_21 : decode cX6_boundedRooms 21 = .ok (.ifCond .eq 15, 3) := by decide +kernel
theorem dX6_boundedRooms_24 : decode cX6_boundedRooms 24 = .ok (.aload_n 0, 1) := by decide +kernel
theorem dX6_boundedRooms_25 : decode cX6_boundedRooms 25 = .ok (.iload_n 2, 1) := by decide +kernel
theorem dX6_boundedRooms_26 : decode cX6_boundedRooms 26 = .ok (.invokevirtual 119, 3) := by decide +kernel
theorem dX6_boundedRooms_29 : decode cX6_boundedRooms 29 = .ok (.ifCond .eq 7, 3) := by decide +kernel
theorem dX6_boundedRooms_32 : decode cX6_boundedRooms 32 = .ok (.iconst 1, 1) := by decide +kernel
theorem dX6_boundedRooms_33 : decode cX6_boundedRooms 33 = .ok (.goto 4, 3) := by decide +kernel
theorem dX6_boundedRooms_36 : decode cX6_boundedRooms 36 = .ok (.iconst 0, 1) := by decide +kernel
theorem dX6_boundedRooms_37 : decode cX6_boundedRooms 37 = .ok (.iadd, 1) := by decide +kernel
theorem dX6_boundedRooms_38 : decode cX6_boundedRooms 38 = .ok (.istore_n 1, 1) := by decide +kernel
theorem dX6_boundedRooms_39 : decode cX6_boundedRooms 39 = .ok (.iinc 2 1, 3) := by decide +kernel
theorem dX6_boundedRooms_42 : decode cX6_boundedRooms 42 = .ok (.goto (-38), 3) := by decide +kernel
theorem dX6_boundedRooms_45 : decode cX6_boundedRooms 45 = .ok (.iload_n 1, 1) := by decide +kernel
theorem dX6_boundedRooms_46 : decode cX6_boundedRooms 46 = .ok (.ireturn, 1) := by decide +kernel
theorem dX6_odd_0 : decode cX6_odd 0 = .ok (.iconst 0, 1) := by decide +kernel
theorem dX6_odd_1 : decode cX6_odd 1 = .ok (.istore_n 1, 1) := by decide +kernel
theorem dX6_odd_2 : decode cX6_odd 2 = .ok (.iconst 0, 1) := by decide +kernel
theorem dX6_odd_3 : decode cX6_odd 3 = .ok (.istore_n 2, 1) := by decide +kernel
theorem dX6_odd_4 : decode cX6_odd 4 = .ok (.iload_n 2, 1) := by decide +kernel
theorem dX6_odd_5 : decode cX6_odd 5 = .ok (.bipush 8, 2) := by decide +kernel
theorem dX6_odd_7 : decode cX6_odd 7 = .ok (.if_icmp .ge 17, 3) := by decide +kernel
theorem dX6_odd_10 : decode cX6_odd 10 = .ok (.iload_n 1, 1) := by decide +kernel
theorem dX6_odd_11 : decode cX6_odd 11 = .ok (.iload_n 0, 1) := by decide +kernel
theorem dX6_odd_12 : decode cX6_odd 12 = .ok (.iload_n 2, 1) := by decide +kernel
theorem dX6_odd_13 : decode cX6_odd 13 = .ok (.ishr, 1) := by decide +kernel
theorem dX6_odd_14 : decode cX6_odd 14 = .ok (.iconst 1, 1) := by decide +kernel
theorem dX6_odd_15 : decode cX6_odd 15 = .ok (.iand, 1) := by decide +kernel
theorem dX6_odd_16 : decode cX6_odd 16 = .ok (.iadd, 1) := by decide +kernel
theorem dX6_odd_17 : decode cX6_odd 17 = .ok (.istore_n 1, 1) := by decide +kernel
theorem dX6_odd_18 : decode cX6_odd 18 = .ok (.iinc 2 1, 3) := by decide +kernel
theorem dX6_odd_21 : decode cX6_odd 21 = .ok (.goto (-17), 3) := by decide +kernel
theorem dX6_odd_24 : decode cX6_odd 24 = .ok (.iload_n 1, 1) := by decide +kernel
theorem dX6_odd_25 : decode cX6_odd 25 = .ok (.iconst 2, 1) := by decide +kernel
theorem dX6_odd_26 : decode cX6_odd 26 = .ok (.irem, 1) := by decide +kernel
theorem dX6_odd_27 : decode cX6_odd 27 = .ok (.ifCond .ne 7, 3) := by decide +kernel
theorem dX6_odd_30 : decode cX6_odd 30 = .ok (.iconst 1, 1) := by decide +kernel
theorem dX6_odd_31 : decode cX6_odd 31 = .ok (.goto 4, 3) := by decide +kernel
theorem dX6_odd_34 : decode cX6_odd 34 = .ok (.iconst (-1), 1) := by decide +kernel
theorem dX6_odd_35 : decode cX6_odd 35 = .ok (.ireturn, 1) := by decide +kernel
set_option maxRecDepth 20000 in
theorem ggX6_polynomial_X6_meets : GoodIn wsX6_polynomial wsX6_meets := goodIn_r _ [7, 8, 9, 10, 6, 11, 1, 12, 13, 14, 15, 16, 17, 21, 22, 23, 24, 25, 26, 27, 28, 29, 30, 31, 32] (by decide +kernel) (by decide +kernel)
set_option maxRecDepth 20000 in
theorem gX6_polynomial_X6_meets : GoodIn wsX6_polynomial (wsV RX6 122 RX6 yX6_meets wsX6_meets) := goodIn_app (goodIn_of _ (by decide +kernel)) ggX6_polynomial_X6_meets
set_option maxRecDepth 20000 in
theorem ggX6_polynomial_X6_rank : GoodIn wsX6_polynomial wsX6_rank := goodIn_r _ [11, 1, 12, 13, 14, 15, 6, 16, 17, 21, 22, 23, 24, 25, 26, 27, 28, 29, 30, 31, 32] (by decide +kernel) (by decide +kernel)
set_option maxRecDepth 20000 in
theorem gX6_polynomial_X6_rank : GoodIn wsX6_polynomial (wsV RX6 97 RX6 yX6_rank wsX6_rank) := goodIn_app (goodIn_of _ (by decide +kernel)) ggX6_polynomial_X6_rank
set_option maxRecDepth 20000 in
theorem ggX6_polynomial_X6_odd : GoodIn wsX6_polynomial wsX6_odd := goodIn_r _ [20] (by decide +kernel) (by decide +kernel)
set_option maxRecDepth 20000 in
theorem gX6_polynomial_X6_odd : GoodIn wsX6_polynomial (va_wsS RX6 125 yX6_odd wsX6_odd) := goodIn_app (goodIn_of _ (by decide +kernel)) ggX6_polynomial_X6_odd
theorem dX6_polynomial_0 : decode cX6_polynomial 0 = .ok (.iconst 0, 1) := by decide +kernel
theorem dX6_polynomial_1 : decode cX6_polynomial 1 = .ok (.istore_n 3, 1) := by decide +kernel
theorem dX6_polynomial_2 : decode cX6_polynomial 2 = .ok (.iconst 0, 1) := by decide +kernel
theorem dX6_polynomial_3 : decode cX6_polynomial 3 = .ok (.istore 4, 2) := by decide +kernel
theorem dX6_polynomial_5 : decode cX6_polynomial 5 = .ok (.iload 4, 2) := by decide +kernel
theorem dX6_polynomial_7 : decode cX6_polynomial 7 = .ok (.iconst 1, 1) := by decide +kernel
theorem dX6_polynomial_8 : decode cX6_polynomial 8 = .ok (.aload_n 0, 1) := by decide +kernel
theorem dX6_polynomial_9 : decode cX6_polynomial 9 = .ok (.getfield 49, 3) := by decide +kernel
theorem dX6_polynomial_12 : decode cX6_polynomial 12 = .ok (.ishl, 1) := by decide +kernel
theorem dX6_polynomial_13 : decode cX6_polynomial 13 = .ok (.if_icmp .ge 51, 3) := by decide +kernel
theorem dX6_polynomial_16 : decode cX6_polynomial 16 = .ok (.iload 4, 2) := by decide +kernel
theorem dX6_polynomial_18 : decode cX6_polynomial 18 = .ok (.iload_n 1, 1) := by decide +kernel
theorem dX6_polynomial_19 : decode cX6_polynomial 19 = .ok (.iconst (-1), 1) := by decide +kernel
theorem dX6_polynomial_20 : decode cX6_polynomial 20 = .ok (.ixor, 1) := by decide +kernel
theorem dX6_polynomial_21 : decode cX6_polynomial 21 = .ok (.iand, 1) := by decide +kernel
theorem dX6_polynomial_22 : decode cX6_polynomial 22 = .ok (.ifCond .ne 36, 3) := by decide +kernel
theorem dX6_polynomial_25 : decode cX6_polynomial 25 = .ok (.aload_n 0, 1) := by decide +kernel
theorem dX6_polynomial_26 : decode cX6_polynomial 26 = .ok (.iload 4, 2) := by decide +kernel
theorem dX6_polynomial_28 : decode cX6_polynomial 28 = .ok (.invokevirtual 122, 3) := by decide +kernel
theorem dX6_polynomial_31 : decode cX6_polynomial 31 = .ok (.ifCond .eq 27, 3) := by decide +kernel
theorem dX6_polynomial_34 : decode cX6_polynomial 34 = .ok (.aload_n 0, 1) := by decide +kernel
theorem dX6_polynomial_35 : decode cX6_polynomial 35 = .ok (.getfield 37, 3) := by decide +kernel
theorem dX6_polynomial_38 : decode cX6_polynomial 38 = .ok (.aload_n 0, 1) := by decide +kernel
theorem dX6_polynomial_39 : decode cX6_polynomial 39 = .ok (.iload 4, 2) := by decide +kernel
theorem dX6_polynomial_41 : decode cX6_polynomial 41 = .ok (.iconst 3, 1) := by decide +kernel
theorem dX6_polynomial_42 : decode cX6_polynomial 42 = .ok (.invokevirtual 97, 3) := by decide +kernel
theorem dX6_polynomial_45 : decode cX6_polynomial 45 = .ok (.isub, 1) := by decide +kernel
theorem dX6_polynomial_46 : decode cX6_polynomial 46 = .ok (.iload_n 2, 1) := by decide +kernel
theorem dX6_polynomial_47 : decode cX6_polynomial 47 = .ok (.if_icmp .ne 11, 3) := by decide +kernel
theorem dX6_polynomial_50 : decode cX6_polynomial 50 = .ok (.iload_n 3, 1) := by decide +kernel
theorem dX6_polynomial_51 : decode cX6_polynomial 51 = .ok (.iload 4, 2) := by decide +kernel
theorem dX6_polynomial_53 : decode cX6_polynomial 53 = .ok (.invokestatic 125, 3) := by decide +kernel
theorem dX6_polynomial_56 : decode cX6_polynomial 56 = .ok (.iadd, 1) := by decide +kernel
theorem dX6_polynomial_57 : decode cX6_polynomial 57 = .ok (.istore_n 3, 1) := by decide +kernel
theorem dX6_polynomial_58 : decode cX6_polynomial 58 = .ok (.iinc 4 1, 3) := by decide +kernel
theorem dX6_polynomial_61 : decode cX6_polynomial 61 = .ok (.goto (-56), 3) := by decide +kernel
theorem dX6_polynomial_64 : decode cX6_polynomial 64 = .ok (.iload_n 3, 1) := by decide +kernel
theorem dX6_polynomial_65 : decode cX6_polynomial 65 = .ok (.ireturn, 1) := by decide +kernel
set_option maxRecDepth 20000 in
theorem ggX6_poly_X6_polynomial : GoodIn wsX6_poly wsX6_polynomial := goodIn_r _ [6, 1, 7, 8, 9, 10, 5, 11, 12, 13, 14, 15, 16, 17, 18, 19, 20, 21, 22, 23, 24, 25, 26, 27, 28, 29, 30, 31, 32, 33, 34, 35, 36] (by decide +kernel) (by decide +kernel)
set_option maxRecDepth 20000 in
theorem gX6_poly_X6_polynomial : GoodIn wsX6_poly (wsV RX6 128 RX6 yX6_polynomial wsX6_polynomial) := goodIn_app (goodIn_of _ (by decide +kernel)) ggX6_poly_X6_polynomial
theorem dX6_poly_0 : decode cX6_poly 0 = .ok (.aload_n 0, 1) := by decide +kernel
theorem dX6_poly_1 : decode cX6_poly 1 = .ok (.iconst 1, 1) := by decide +kernel
theorem dX6_poly_2 : decode cX6_poly 2 = .ok (.aload_n 0, 1) := by decide +kernel
theorem dX6_poly_3 : decode cX6_poly 3 = .ok (.getfield 49, 3) := by decide +kernel
theorem dX6_poly_6 : decode cX6_poly 6 = .ok (.ishl, 1) := by decide +kernel
theorem dX6_poly_7 : decode cX6_poly 7 = .ok (.iconst 1, 1) := by decide +kernel
theorem dX6_poly_8 : decode cX6_poly 8 = .ok (.isub, 1) := by decide +kernel
theorem dX6_poly_9 : decode cX6_poly 9 = .ok (.iload_n 1, 1) := by decide +kernel
theorem dX6_poly_10 : decode cX6_poly 10 = .ok (.invokevirtual 128, 3) := by decide +kernel
theorem dX6_poly_13 : decode cX6_poly 13 = .ok (.ireturn, 1) := by decide +kernel
set_option maxRecDepth 20000 in
theorem ggX6_without_X6_in : GoodIn wsX6_without wsX6_in := goodIn_r _ [5] (by decide +kernel) (by decide +kernel)
set_option maxRecDepth 20000 in
theorem gX6_without_X6_in : GoodIn wsX6_without (va_wsS RX6 45 yX6_in wsX6_in) := goodIn_app (goodIn_of _ (by decide +kernel)) ggX6_without_X6_in
set_option maxRecDepth 20000 in
theorem ggX6_without_X6_polynomial : GoodIn wsX6_without wsX6_polynomial := goodIn_r _ [9, 1, 10, 11, 12, 13, 4, 14, 15, 16, 17, 18, 19, 20, 21, 22, 23, 24, 25, 26, 27, 28, 29, 30, 31, 32, 33, 34, 35, 36, 37, 38, 39] (by decide +kernel) (by decide +kernel)
set_option maxRecDepth 20000 in
theorem gX6_without_X6_polynomial : GoodIn wsX6_without (wsV RX6 128 RX6 yX6_polynomial wsX6_polynomial) := goodIn_app (goodIn_of _ (by decide +kernel)) ggX6_without_X6_polynomial
theorem dX6_without_0 : decode cX6_without 0 = .ok (.iload_n 1, 1) := by decide +kernel
theorem dX6_without_1 : decode cX6_without 1 = .ok (.iconst 0, 1) := by decide +kernel
theorem dX6_without_2 : decode cX6_without 2 = .ok (.aload_n 0, 1) := by decide +kernel
theorem dX6_without_3 : decode cX6_without 3 = .ok (.getfield 49, 3) := by decide +kernel
theorem dX6_without_6 : decode cX6_without 6 = .ok (.iconst 1, 1) := by decide +kernel
theorem dX6_without_7 : decode cX6_without 7 = .ok (.isub, 1) := by decide +kernel
theorem dX6_without_8 : decode cX6_without 8 = .ok (.invokestatic 45, 3) := by decide +kernel
theorem dX6_without_11 : decode cX6_without 11 = .ok (.ifCond .eq 25, 3) := by decide +kernel
theorem dX6_without_14 : decode cX6_without 14 = .ok (.aload_n 0, 1) := by decide +kernel
theorem dX6_without_15 : decode cX6_without 15 = .ok (.iconst 1, 1) := by decide +kernel
theorem dX6_without_16 : decode cX6_without 16 = .ok (.aload_n 0, 1) := by decide +kernel
theorem dX6_without_17 : decode cX6_without 17 = .ok (.getfield 49, 3) := by decide +kernel
theorem dX6_without_20 : decode cX6_without 20 = .ok (.ishl, 1) := by decide +kernel
theorem dX6_without_21 : decode cX6_without 21 = .ok (.iconst 1, 1) := by decide +kernel
theorem dX6_without_22 : decode cX6_without 22 = .ok (.isub, 1) := by decide +kernel
theorem dX6_without_23 : decode cX6_without 23 = .ok (.iconst 1, 1) := by decide +kernel
theorem dX6_without_24 : decode cX6_without 24 = .ok (.iload_n 1, 1) := by decide +kernel
theorem dX6_without_25 : decode cX6_without 25 = .ok (.ishl, 1) := by decide +kernel
theorem dX6_without_26 : decode cX6_without 26 = .ok (.iconst (-1), 1) := by decide +kernel
theorem dX6_without_27 : decode cX6_without 27 = .ok (.ixor, 1) := by decide +kernel
theorem dX6_without_28 : decode cX6_without 28 = .ok (.iand, 1) := by decide +kernel
theorem dX6_without_29 : decode cX6_without 29 = .ok (.iload_n 2, 1) := by decide +kernel
theorem dX6_without_30 : decode cX6_without 30 = .ok (.invokevirtual 128, 3) := by decide +kernel
theorem dX6_without_33 : decode cX6_without 33 = .ok (.goto 4, 3) := by decide +kernel
theorem dX6_without_36 : decode cX6_without 36 = .ok (.iconst 0, 1) := by decide +kernel
theorem dX6_without_37 : decode cX6_without 37 = .ok (.ireturn, 1) := by decide +kernel
set_option maxRecDepth 20000 in
theorem ggX6_on_X6_in : GoodIn wsX6_on wsX6_in := goodIn_r _ [6] (by decide +kernel) (by decide +kernel)
set_option maxRecDepth 20000 in
theorem gX6_on_X6_in : GoodIn wsX6_on (va_wsS RX6 45 yX6_in wsX6_in) := goodIn_app (goodIn_of _ (by decide +kernel)) ggX6_on_X6_in
set_option maxRecDepth 20000 in
theorem ggX6_on_X6_meets : GoodIn wsX6_on wsX6_meets := goodIn_r _ [10, 11, 12, 13, 5, 14, 1, 15, 16, 17, 18, 19, 20, 24, 25, 26, 27, 28, 29, 30, 31, 32, 33, 34, 35] (by decide +kernel) (by decide +kernel)
set_option maxRecDepth 20000 in
theorem gX6_on_X6_meets : GoodIn wsX6_on (wsV RX6 122 RX6 yX6_meets wsX6_meets) := goodIn_app (goodIn_of _ (by decide +kernel)) ggX6_on_X6_meets
set_option maxRecDepth 20000 in
theorem ggX6_on_X6_rank : GoodIn wsX6_on wsX6_rank := goodIn_r _ [14, 1, 15, 16, 17, 18, 5, 19, 20, 24, 25, 26, 27, 28, 29, 30, 31, 32, 33, 34, 35] (by decide +kernel) (by decide +kernel)
set_option maxRecDepth 20000 in
theorem gX6_on_X6_rank : GoodIn wsX6_on (wsV RX6 97 RX6 yX6_rank wsX6_rank) := goodIn_app (goodIn_of _ (by decide +kernel)) ggX6_on_X6_rank
set_option maxRecDepth 20000 in
theorem ggX6_on_X6_odd : GoodIn wsX6_on wsX6_odd := goodIn_r _ [23] (by decide +kernel) (by decide +kernel)
set_option maxRecDepth 20000 in
theorem gX6_on_X6_odd : GoodIn wsX6_on (va_wsS RX6 125 yX6_odd wsX6_odd) := goodIn_app (goodIn_of _ (by decide +kernel)) ggX6_on_X6_odd
theorem dX6_on_0 : decode cX6_on 0 = .ok (.iload_n 1, 1) := by decide +kernel
theorem dX6_on_1 : decode cX6_on 1 = .ok (.iconst 0, 1) := by decide +kernel
theorem dX6_on_2 : decode cX6_on 2 = .ok (.aload_n 0, 1) := by decide +kernel
theorem dX6_on_3 : decode cX6_on 3 = .ok (.getfield 49, 3) := by decide +kernel
theorem dX6_on_6 : decode cX6_on 6 = .ok (.iconst 1, 1) := by decide +kernel
theorem dX6_on_7 : decode cX6_on 7 = .ok (.isub, 1) := by decide +kernel
theorem dX6_on_8 : decode cX6_on 8 = .ok (.invokestatic 45, 3) := by decide +kernel
theorem dX6_on_11 : decode cX6_on 11 = .ok (.ifCond .ne 5, 3) := by decide +kernel
theorem dX6_on_14 : decode cX6_on 14 = .ok (.iconst 0, 1) := by decide +kernel
theorem dX6_on_15 : decode cX6_on 15 = .ok (.ireturn, 1) := by decide +kernel
theorem dX6_on_16 : decode cX6_on 16 = .ok (.iconst 1, 1) := by decide +kernel
theorem dX6_on_17 : decode cX6_on 17 = .ok (.iload_n 1, 1) := by decide +kernel
theorem dX6_on_18 : decode cX6_on 18 = .ok (.ishl, 1) := by decide +kernel
theorem dX6_on_19 : decode cX6_on 19 = .ok (.istore_n 3, 1) := by decide +kernel
theorem dX6_on_20 : decode cX6_on 20 = .ok (.iconst 0, 1) := by decide +kernel
theorem dX6_on_21 : decode cX6_on 21 = .ok (.istore 4, 2) := by decide +kernel
theorem dX6_on_23 : decode cX6_on 23 = .ok (.iconst 0, 1) := by decide +kernel
theorem dX6_on_24 : decode cX6_on 24 = .ok (.istore 5, 2) := by decide +kernel
theorem dX6_on_26 : decode cX6_on 26 = .ok (.iload 5, 2) := by decide +kernel
theorem dX6_on_28 : decode cX6_on 28 = .ok (.aload_n 0, 1) := by decide +kernel
theorem dX6_on_29 : decode cX6_on 29 = .ok (.getfield 49, 3) := by decide +kernel
theorem dX6_on_32 : decode cX6_on 32 = .ok (.if_icmp .ge 113, 3) := by decide +kernel
theorem dX6_on_35 : decode cX6_on 35 = .ok (.iload 5, 2) := by decide +kernel
theorem dX6_on_37 : decode cX6_on 37 = .ok (.iload_n 1, 1) := by decide +kernel
theorem dX6_on_38 : decode cX6_on 38 = .ok (.if_icmp .eq 101, 3) := by decide +kernel
theorem dX6_on_41 : decode cX6_on 41 = .ok (.aload_n 0, 1) := by decide +kernel
theorem dX6_on_42 : decode cX6_on 42 = .ok (.iload_n 3, 1) := by decide +kernel
theorem dX6_on_43 : decode cX6_on 43 = .ok (.iconst 1, 1) := by decide +kernel
theorem dX6_on_44 : decode cX6_on 44 = .ok (.iload 5, 2) := by decide +kernel
theorem dX6_on_46 : decode cX6_on 46 = .ok (.ishl, 1) := by decide +kernel
theorem dX6_on_47 : decode cX6_on 47 = .ok (.ior, 1) := by decide +kernel
theorem dX6_on_48 : decode cX6_on 48 = .ok (.invokevirtual 122, 3) := by decide +kernel
theorem dX6_on_51 : decode cX6_on 51 = .ok (.ifCond .eq 88, 3) := by decide +kernel
theorem dX6_on_54 : decode cX6_on 54 = .ok (.aload_n 0, 1) := by decide +kernel
theorem dX6_on_55 : decode cX6_on 55 = .ok (.iload_n 3, 1) := by decide +kernel
theorem dX6_on_56 : decode cX6_on 56 = .ok (.iconst 1, 1) := by decide +kernel
theorem dX6_on_57 : decode cX6_on 57 = .ok (.iload 5, 2) := by decide +kernel
theorem dX6_on_59 : decode cX6_on 59 = .ok (.ishl, 1) := by decide +kernel
theorem dX6_on_60 : decode cX6_on 60 = .ok (.ior, 1) := by decide +kernel
theorem dX6_on_61 : decode cX6_on 61 = .ok (.iconst 3, 1) := by decide +kernel
theorem dX6_on_62 : decode cX6_on 62 = .ok (.invokevirtual 97, 3) := by decide +kernel
theorem dX6_on_65 : decode cX6_on 65 = .ok (.iconst 2, 1) := by decide +kernel
theorem dX6_on_66 : decode cX6_on 66 = .ok (.if_icmp .ge 6, 3) := by decide +kernel
theorem dX6_on_69 : decode cX6_on 69 = .ok (.goto 70, 3) := by decide +kernel
theorem dX6_on_72 : decode cX6_on 72 = .ok (.iconst 1, 1) := by decide +kernel
theorem dX6_on_73 : decode cX6_on 73 = .ok (.istore 6, 2) := by decide +kernel
theorem dX6_on_75 : decode cX6_on 75 = .ok (.iconst 0, 1) := by decide +kernel
theorem dX6_on_76 : decode cX6_on 76 = .ok (.istore 7, 2) := by decide +kernel
theorem dX6_on_78 : decode cX6_on 78 = .ok (.iload 7, 2) := by decide +kernel
theorem dX6_on_80 : decode cX6_on 80 = .ok (.iload 5, 2) := by decide +kernel
theorem dX6_on_82 : decode cX6_on 82 = .ok (.if_icmp .ge 43, 3) := by decide +kernel
theorem dX6_on_85 : decode cX6_on 85 = .ok (.iload 4, 2) := by decide +kernel
theorem dX6_on_87 : decode cX6_on 87 = .ok (.iload 7, 2) := by decide +kernel
theorem dX6_on_89 : decode cX6_on 89 = .ok (.ishr, 1) := by decide +kernel
theorem dX6_on_90 : decode cX6_on 90 = .ok (.iconst 1, 1) := by decide +kernel
theorem dX6_on_91 : decode cX6_on 91 = .ok (.iand, 1) := by decide +kernel
theorem dX6_on_92 : decode cX6_on 92 = .ok (.iconst 1, 1) := by decide +kernel
theorem dX6_on_93 : decode cX6_on 93 = .ok (.if_icmp .ne 26, 3) := by decide +kernel
theorem dX6_on_96 : decode cX6_on 96 = .ok (.aload_n 0, 1) := by decide +kernel
theorem dX6_on_97 : decode cX6_on 97 = .ok (.iload_n 3, 1) := by decide +kernel
theorem dX6_on_98 : decode cX6_on 98 = .ok (.iconst 1, 1) := by decide +kernel
theorem dX6_on_99 : decode cX6_on 99 = .ok (.iload 5, 2) := by decide +kernel
theorem dX6_on_101 : decode cX6_on 101 = .ok (.ishl, 1) := by decide +kernel
theorem dX6_on_102 : decode cX6_on 102 = .ok (.ior, 1) := by decide +kernel
theorem dX6_on_103 : decode cX6_on 103 = .ok (.iconst 1, 1) := by decide +kernel
theorem dX6_on_104 : decode cX6_on 104 = .ok (.iload 7, 2) := by decide +kernel
theorem dX6_on_106 : decode cX6_on 106 = .ok (.ishl, 1) := by decide +kernel
theorem dX6_on_107 : decode cX6_on 107 = .ok (.ior, 1) := by decide +kernel
theorem dX6_on_108 : decode cX6_on 108 = .ok (.iconst 4, 1) := by decide +kernel
theorem dX6_on_109 : decode cX6_on 109 = .ok (.invokevirtual 97, 3) := by decide +kernel
theorem dX6_on_112 : decode cX6_on 112 = .ok (.iconst 2, 1) := by decide +kernel
theorem dX6_on_113 : decode cX6_on 113 = .ok (.if_icmp .ne 6, 3) := by decide +kernel
theorem dX6_on_116 : decode cX6_on 116 = .ok (.iconst 0, 1) := by decide +kernel
theorem dX6_on_117 : decode cX6_on 117 = .ok (.istore 6, 2) := by decide +kernel
theorem dX6_on_119 : decode cX6_on 119 = .ok (.iinc 7 1, 3) := by decide +kernel
theorem dX6_on_122 : decode cX6_on 122 = .ok (.goto (-44), 3) := by decide +kernel
theorem dX6_on_125 : decode cX6_on 125 = .ok (.iload 6, 2) := by decide +kernel
theorem dX6_on_127 : decode cX6_on 127 = .ok (.ifCond .eq 12, 3) := by decide +kernel
theorem dX6_on_130 : decode cX6_on 130 = .ok (.iload 4, 2) := by decide +kernel
theorem dX6_on_132 : decode cX6_on 132 = .ok (.iconst 1, 1) := by decide +kernel
theorem dX6_on_133 : decode cX6_on 133 = .ok (.iload 5, 2) := by decide +kernel
theorem dX6_on_135 : decode cX6_on 135 = .ok (.ishl, 1) := by decide +kernel
theorem dX6_on_136 : decode cX6_on 136 = .ok (.ior, 1) := by decide +kernel
theorem dX6_on_137 : decode cX6_on 137 = .ok (.istore 4, 2) := by decide +kernel
theorem dX6_on_139 : decode cX6_on 139 = .ok (.iinc 5 1, 3) := by decide +kernel
theorem dX6_on_142 : decode cX6_on 142 = .ok (.goto (-116), 3) := by decide +kernel
theorem dX6_on_145 : decode cX6_on 145 = .ok (.iconst 0, 1) := by decide +kernel
theorem dX6_on_146 : decode cX6_on 146 = .ok (.istore 5, 2) := by decide +kernel
theorem dX6_on_148 : decode cX6_on 148 = .ok (.iconst 0, 1) := by decide +kernel
theorem dX6_on_149 : decode cX6_on 149 = .ok (.istore 6, 2) := by decide +kernel
theorem dX6_on_151 : decode cX6_on 151 = .ok (.iload 6, 2) := by decide +kernel
theorem dX6_on_153 : decode cX6_on 153 = .ok (.iconst 1, 1) := by decide +kernel
theorem dX6_on_154 : decode cX6_on 154 = .ok (.aload_n 0, 1) := by decide +kernel
theorem dX6_on_155 : decode cX6_on 155 = .ok (.getfield 49, 3) := by decide +kernel
theorem dX6_on_158 : decode cX6_on 158 = .ok (.ishl, 1) := by decide +kernel
theorem dX6_on_159 : decode cX6_on 159 = .ok (.if_icmp .ge 58, 3) := by decide +kernel
theorem dX6_on_162 : decode cX6_on 162 = .ok (.iload 6, 2) := by decide +kernel
theorem dX6_on_164 : decode cX6_on 164 = .ok (.iload 4, 2) := by decide +kernel
theorem dX6_on_166 : decode cX6_on 166 = .ok (.iconst (-1), 1) := by decide +kernel
theorem dX6_on_167 : decode cX6_on 167 = .ok (.ixor, 1) := by decide +kernel
theorem dX6_on_168 : decode cX6_on 168 = .ok (.iand, 1) := by decide +kernel
theorem dX6_on_169 : decode cX6_on 169 = .ok (.ifCond .ne 42, 3) := by decide +kernel
theorem dX6_on_172 : decode cX6_on 172 = .ok (.aload_n 0, 1) := by decide +kernel
theorem dX6_on_173 : decode cX6_on 173 = .ok (.iload 6, 2) := by decide +kernel
theorem dX6_on_175 : decode cX6_on 175 = .ok (.iload_n 3, 1) := by decide +kernel
theorem dX6_on_176 : decode cX6_on 176 = .ok (.ior, 1) := by decide +kernel
theorem dX6_on_177 : decode cX6_on 177 = .ok (.invokevirtual 122, 3) := by decide +kernel
theorem dX6_on_180 : decode cX6_on 180 = .ok (.ifCond .eq 31, 3) := by decide +kernel
theorem dX6_on_183 : decode cX6_on 183 = .ok (.aload_n 0, 1) := by decide +kernel
theorem dX6_on_184 : decode cX6_on 184 = .ok (.getfield 37, 3) := by decide +kernel
theorem dX6_on_187 : decode cX6_on 187 = .ok (.aload_n 0, 1) := by decide +kernel
theorem dX6_on_188 : decode cX6_on 188 = .ok (.iload 6, 2) := by decide +kernel
theorem dX6_on_190 : decode cX6_on 190 = .ok (.iload_n 3, 1) := by decide +kernel
theorem dX6_on_191 : decode cX6_on 191 = .ok (.ior, 1) := by decide +kernel
theorem dX6_on_192 : decode cX6_on 192 = .ok (.iconst 3, 1) := by decide +kernel
theorem dX6_on_193 : decode cX6_on 193 = .ok (.invokevirtual 97, 3) := by decide +kernel
theorem dX6_on_196 : decode cX6_on 196 = .ok (.isub, 1) := by decide +kernel
theorem dX6_on_197 : decode cX6_on 197 = .ok (.iload_n 2, 1) := by decide +kernel
theorem dX6_on_198 : decode cX6_on 198 = .ok (.if_icmp .ne 13, 3) := by decide +kernel
theorem dX6_on_201 : decode cX6_on 201 = .ok (.iload 5, 2) := by decide +kernel
theorem dX6_on_203 : decode cX6_on 203 = .ok (.iload 6, 2) := by decide +kernel
theorem dX6_on_205 : decode cX6_on 205 = .ok (.invokestatic 125, 3) := by decide +kernel
theorem dX6_on_208 : decode cX6_on 208 = .ok (.iadd, 1) := by decide +kernel
theorem dX6_on_209 : decode cX6_on 209 = .ok (.istore 5, 2) := by decide +kernel
theorem dX6_on_211 : decode cX6_on 211 = .ok (.iinc 6 1, 3) := by decide +kernel
theorem dX6_on_214 : decode cX6_on 214 = .ok (.goto (-63), 3) := by decide +kernel
theorem dX6_on_217 : decode cX6_on 217 = .ok (.iload 5, 2) := by decide +kernel
theorem dX6_on_219 : decode cX6_on 219 = .ok (.ireturn, 1) := by decide +kernel
set_option maxRecDepth 20000 in
theorem ggX6_across_X6_power : GoodIn wsX6_across wsX6_power := goodIn_r _ [4] (by decide +kernel) (by decide +kernel)
set_option maxRecDepth 20000 in
theorem gX6_across_X6_power : GoodIn wsX6_across (va_wsS RX6 56 yX6_power wsX6_power) := goodIn_app (goodIn_of _ (by decide +kernel)) ggX6_across_X6_power
set_option maxRecDepth 20000 in
theorem ggX6_across_X6_sign : GoodIn wsX6_across wsX6_sign := goodIn_r _ [7, 1, 2, 3, 4] (by decide +kernel) (by decide +kernel)
set_option maxRecDepth 20000 in
theorem gX6_across_X6_sign : GoodIn wsX6_across (va_wsS RX6 79 yX6_sign wsX6_sign) := goodIn_app (goodIn_of _ (by decide +kernel)) ggX6_across_X6_sign
theorem dX6_across_0 : decode cX6_across 0 = .ok (.iload_n 0, 1) := by decide +kernel
theorem dX6_across_1 : decode cX6_across 1 = .ok (.iload_n 1, 1) := by decide +kernel
theorem dX6_across_2 : decode cX6_across 2 = .ok (.invokestatic 56, 3) := by decide +kernel
theorem dX6_across_5 : decode cX6_across 5 = .ok (.iconst 2, 1) := by decide +kernel
theorem dX6_across_6 : decode cX6_across 6 = .ok (.iconst 2, 1) := by decide +kernel
theorem dX6_across_7 : decode cX6_across 7 = .ok (.iload_n 0, 1) := by decide +kernel
theorem dX6_across_8 : decode cX6_across 8 = .ok (.iload_n 1, 1) := by decide +kernel
theorem dX6_across_9 : decode cX6_across 9 = .ok (.invokestatic 79, 3) := by decide +kernel
theorem dX6_across_12 : decode cX6_across 12 = .ok (.imul, 1) := by decide +kernel
theorem dX6_across_13 : decode cX6_across 13 = .ok (.isub, 1) := by decide +kernel
theorem dX6_across_14 : decode cX6_across 14 = .ok (.imul, 1) := by decide +kernel
theorem dX6_across_15 : decode cX6_across 15 = .ok (.iadd, 1) := by decide +kernel
theorem dX6_across_16 : decode cX6_across 16 = .ok (.ireturn, 1) := by decide +kernel
set_option maxRecDepth 20000 in
theorem ggX6_walls_X6_isRoom : GoodIn wsX6_walls wsX6_isRoom := goodIn_r _ [6, 7, 8, 9, 5, 10, 11, 12, 13, 14, 15, 16, 1, 17, 18, 19, 20, 21, 22, 23, 24, 25, 26, 27, 28, 29, 30, 31, 32, 33, 34, 35, 36, 37, 38, 39, 40, 41, 42, 43, 44, 45, 46, 47, 48, 49, 50, 51, 52, 53, 54, 55, 56, 57, 58, 59, 60, 61, 62, 63, 64, 68, 69, 70, 71, 72, 73, 74, 75, 76, 77, 78, 79] (by decide +kernel) (by decide +kernel)
set_option maxRecDepth 20000 in
theorem gX6_walls_X6_isRoom : GoodIn wsX6_walls (wsV RX6 113 RX6 yX6_isRoom wsX6_isRoom) := goodIn_app (goodIn_of _ (by decide +kernel)) ggX6_walls_X6_isRoom
set_option maxRecDepth 20000 in
theorem ggX6_walls_X6_across : GoodIn wsX6_walls wsX6_across := goodIn_r _ [67, 17, 18, 5, 19, 32, 33, 34] (by decide +kernel) (by decide +kernel)
set_option maxRecDepth 20000 in
theorem gX6_walls_X6_across : GoodIn wsX6_walls (va_wsS RX6 131 yX6_across wsX6_across) := goodIn_app (goodIn_of _ (by decide +kernel)) ggX6_walls_X6_across
theorem dX6_walls_0 : decode cX6_walls 0 = .ok (.aload_n 0, 1) := by decide +kernel
theorem dX6_walls_1 : decode cX6_walls 1 = .ok (.iload_n 1, 1) := by decide +kernel
theorem dX6_walls_2 : decode cX6_walls 2 = .ok (.invokevirtual 113, 3) := by decide +kernel
theorem dX6_walls_5 : decode cX6_walls 5 = .ok (.ifCond .ne 5, 3) := by decide +kernel
theorem dX6_walls_8 : decode cX6_walls 8 = .ok (.iconst (-1), 1) := by decide +kernel
theorem dX6_walls_9 : decode cX6_walls 9 = .ok (.ireturn, 1) := by decide +kernel
theorem dX6_walls_10 : decode cX6_walls 10 = .ok (.iconst 0, 1) := by decide +kernel
theorem dX6_walls_11 : decode cX6_walls 11 = .ok (.istore_n 2, 1) := by decide +kernel
theorem dX6_walls_12 : decode cX6_walls 12 = .ok (.iconst 0, 1) := by decide +kernel
theorem dX6_walls_13 : decode cX6_walls 13 = .ok (.istore_n 3, 1) := by decide +kernel
theorem dX6_walls_14 : decode cX6_walls 14 = .ok (.iload_n 3, 1) := by decide +kernel
theorem dX6_walls_15 : decode cX6_walls 15 = .ok (.aload_n 0, 1) := by decide +kernel
theorem dX6_walls_16 : decode cX6_walls 16 = .ok (.getfield 49, 3) := by decide +kernel
theorem dX6_walls_19 : decode cX6_walls 19 = .ok (.if_icmp .ge 31, 3) := by decide +kernel
theorem dX6_walls_22 : decode cX6_walls 22 = .ok (.iload_n 2, 1) := by decide +kernel
theorem dX6_walls_23 : decode cX6_walls 23 = .ok (.aload_n 0, 1) := by decide +kernel
theorem dX6_walls_24 : decode cX6_walls 24 = .ok (.iload_n 1, 1) := by decide +kernel
theorem dX6_walls_25 : decode cX6_walls 25 = .ok (.iload_n 3, 1) := by decide +kernel
theorem dX6_walls_26 : decode cX6_walls 26 = .ok (.invokestatic 131, 3) := by decide +kernel
theorem dX6_walls_29 : decode cX6_walls 29 = .ok (.invokevirtual 113, 3) := by decide +kernel
theorem dX6_walls_32 : decode cX6_walls 32 = .ok (.ifCond .eq 9, 3) := by decide +kernel
theorem dX6_walls_35 : decode cX6_walls 35 = .ok (.iconst 1, 1) := by decide +kernel
theorem dX6_walls_36 : decode cX6_walls 36 = .ok (.iload_n 3, 1) := by decide +kernel
theorem dX6_walls_37 : decode cX6_walls 37 = .ok (.ishl, 1) := by decide +kernel
theorem dX6_walls_38 : decode cX6_walls 38 = .ok (.goto 4, 3) := by decide +kernel
theorem dX6_walls_41 : decode cX6_walls 41 = .ok (.iconst 0, 1) := by decide +kernel
theorem dX6_walls_42 : decode cX6_walls 42 = .ok (.ior, 1) := by decide +kernel
theorem dX6_walls_43 : decode cX6_walls 43 = .ok (.istore_n 2, 1) := by decide +kernel
theorem dX6_walls_44 : decode cX6_walls 44 = .ok (.iinc 3 1, 3) := by decide +kernel
theorem dX6_walls_47 : decode cX6_walls 47 = .ok (.goto (-33), 3) := by decide +kernel
theorem dX6_walls_50 : decode cX6_walls 50 = .ok (.iload_n 2, 1) := by decide +kernel
theorem dX6_walls_51 : decode cX6_walls 51 = .ok (.ireturn, 1) := by decide +kernel
set_option maxRecDepth 20000 in
theorem ggX6_beside_X6_isRoom : GoodIn wsX6_beside wsX6_isRoom := goodIn_r _ [6, 7, 8, 9, 5, 10, 11, 12, 13, 14, 15, 16, 1, 17, 18, 19, 20, 21, 22, 23, 24, 25, 26, 27, 28, 29, 30, 31, 32, 33, 34, 35, 36, 37, 38, 39, 40, 41, 42, 43, 44, 45, 46, 47, 48, 49, 50, 51, 52, 53, 54, 55, 56, 57, 58, 59, 60, 61, 62, 63, 64, 68, 69, 70, 71, 72, 73, 74, 75, 76, 77, 78, 79] (by decide +kernel) (by decide +kernel)
set_option maxRecDepth 20000 in
theorem gX6_beside_X6_isRoom : GoodIn wsX6_beside (wsV RX6 113 RX6 yX6_isRoom wsX6_isRoom) := goodIn_app (goodIn_of _ (by decide +kernel)) ggX6_beside_X6_isRoom
set_option maxRecDepth 20000 in
theorem ggX6_beside_X6_in : GoodIn wsX6_beside wsX6_in := goodIn_r _ [60] (by decide +kernel) (by decide +kernel)
set_option maxRecDepth 20000 in
theorem gX6_beside_X6_in : GoodIn wsX6_beside (va_wsS RX6 45 yX6_in wsX6_in) := goodIn_app (goodIn_of _ (by decide +kernel)) ggX6_beside_X6_in
set_option maxRecDepth 20000 in
theorem ggX6_beside_X6_across : GoodIn wsX6_beside wsX6_across := goodIn_r _ [67, 17, 18, 5, 19, 32, 33, 34] (by decide +kernel) (by decide +kernel)
set_option maxRecDepth 20000 in
theorem gX6_beside_X6_across : GoodIn wsX6_beside (va_wsS RX6 131 yX6_across wsX6_across) := goodIn_app (goodIn_of _ (by decide +kernel)) ggX6_beside_X6_across
theorem dX6_beside_0 : decode cX6_beside 0 = .ok (.aload_n 0, 1) := by decide +kernel
theorem dX6_beside_1 : decode cX6_beside 1 = .ok (.iload_n 1, 1) := by decide +kernel
theorem dX6_beside_2 : decode cX6_beside 2 = .ok (.invokevirtual 113, 3) := by decide +kernel
theorem dX6_beside_5 : decode cX6_beside 5 = .ok (.ifCond .eq 17, 3) := by decide +kernel
theorem dX6_beside_8 : decode cX6_beside 8 = .ok (.iload_n 2, 1) := by decide +kernel
theorem dX6_beside_9 : decode cX6_beside 9 = .ok (.iconst 0, 1) := by decide +kernel
theorem dX6_beside_10 : decode cX6_beside 10 = .ok (.aload_n 0, 1) := by decide +kernel
theorem dX6_beside_11 : decode cX6_beside 11 = .ok (.getfield 49, 3) := by decide +kernel
theorem dX6_beside_14 : decode cX6_beside 14 = .ok (.iconst 1, 1) := by decide +kernel
theorem dX6_beside_15 : decode cX6_beside 15 = .ok (.isub, 1) := by decide +kernel
theorem dX6_beside_16 : decode cX6_beside 16 = .ok (.invokestatic 45, 3) := by decide +kernel
theorem dX6_beside_19 : decode cX6_beside 19 = .ok (.ifCond .ne 5, 3) := by decide +kernel
theorem dX6_beside_22 : decode cX6_beside 22 = .ok (.iconst (-1), 1) := by decide +kernel
theorem dX6_beside_23 : decode cX6_beside 23 = .ok (.ireturn, 1) := by decide +kernel
theorem dX6_beside_24 : decode cX6_beside 24 = .ok (.iload_n 1, 1) := by decide +kernel
theorem dX6_beside_25 : decode cX6_beside 25 = .ok (.iload_n 2, 1) := by decide +kernel
theorem dX6_beside_26 : decode cX6_beside 26 = .ok (.invokestatic 131, 3) := by decide +kernel
theorem dX6_beside_29 : decode cX6_beside 29 = .ok (.istore_n 3, 1) := by decide +kernel
theorem dX6_beside_30 : decode cX6_beside 30 = .ok (.aload_n 0, 1) := by decide +kernel
theorem dX6_beside_31 : decode cX6_beside 31 = .ok (.iload_n 3, 1) := by decide +kernel
theorem dX6_beside_32 : decode cX6_beside 32 = .ok (.invokevirtual 113, 3) := by decide +kernel
theorem dX6_beside_35 : decode cX6_beside 35 = .ok (.ifCond .eq 7, 3) := by decide +kernel
theorem dX6_beside_38 : decode cX6_beside 38 = .ok (.iload_n 3, 1) := by decide +kernel
theorem dX6_beside_39 : decode cX6_beside 39 = .ok (.goto 4, 3) := by decide +kernel
theorem dX6_beside_42 : decode cX6_beside 42 = .ok (.iconst (-1), 1) := by decide +kernel
theorem dX6_beside_43 : decode cX6_beside 43 = .ok (.ireturn, 1) := by decide +kernel
set_option maxRecDepth 20000 in
theorem ggX6_parted_X6_sign : GoodIn wsX6_parted wsX6_sign := goodIn_r _ [5, 6, 7, 4, 8] (by decide +kernel) (by decide +kernel)
set_option maxRecDepth 20000 in
theorem gX6_parted_X6_sign : GoodIn wsX6_parted (va_wsS RX6 79 yX6_sign wsX6_sign) := goodIn_app (goodIn_of _ (by decide +kernel)) ggX6_parted_X6_sign
theorem dX6_parted_0 : decode cX6_parted 0 = .ok (.iconst 0, 1) := by decide +kernel
theorem dX6_parted_1 : decode cX6_parted 1 = .ok (.istore_n 3, 1) := by decide +kernel
theorem dX6_parted_2 : decode cX6_parted 2 = .ok (.iconst 0, 1) := by decide +kernel
theorem dX6_parted_3 : decode cX6_parted 3 = .ok (.istore 4, 2) := by decide +kernel
theorem dX6_parted_5 : decode cX6_parted 5 = .ok (.iload 4, 2) := by decide +kernel
theorem dX6_parted_7 : decode cX6_parted 7 = .ok (.aload_n 0, 1) := by decide +kernel
theorem dX6_parted_8 : decode cX6_parted 8 = .ok (.getfield 49, 3) := by decide +kernel
theorem dX6_parted_11 : decode cX6_parted 11 = .ok (.if_icmp .ge 35, 3) := by decide +kernel
theorem dX6_parted_14 : decode cX6_parted 14 = .ok (.iload_n 3, 1) := by decide +kernel
theorem dX6_parted_15 : decode cX6_parted 15 = .ok (.iload_n 1, 1) := by decide +kernel
theorem dX6_parted_16 : decode cX6_parted 16 = .ok (.iload 4, 2) := by decide +kernel
theorem dX6_parted_18 : decode cX6_parted 18 = .ok (.invokestatic 79, 3) := by decide +kernel
theorem dX6_parted_21 : decode cX6_parted 21 = .ok (.iload_n 2, 1) := by decide +kernel
theorem dX6_parted_22 : decode cX6_parted 22 = .ok (.iload 4, 2) := by decide +kernel
theorem dX6_parted_24 : decode cX6_parted 24 = .ok (.invokestatic 79, 3) := by decide +kernel
theorem dX6_parted_27 : decode cX6_parted 27 = .ok (.if_icmp .eq 10, 3) := by decide +kernel
theorem dX6_parted_30 : decode cX6_parted 30 = .ok (.iconst 1, 1) := by decide +kernel
theorem dX6_parted_31 : decode cX6_parted 31 = .ok (.iload 4, 2) := by decide +kernel
theorem dX6_parted_33 : decode cX6_parted 33 = .ok (.ishl, 1) := by decide +kernel
theorem dX6_parted_34 : decode cX6_parted 34 = .ok (.goto 4, 3) := by decide +kernel
theorem dX6_parted_37 : decode cX6_parted 37 = .ok (.iconst 0, 1) := by decide +kernel
theorem dX6_parted_38 : decode cX6_parted 38 = .ok (.ior, 1) := by decide +kernel
theorem dX6_parted_39 : decode cX6_parted 39 = .ok (.istore_n 3, 1) := by decide +kernel
theorem dX6_parted_40 : decode cX6_parted 40 = .ok (.iinc 4 1, 3) := by decide +kernel
theorem dX6_parted_43 : decode cX6_parted 43 = .ok (.goto (-38), 3) := by decide +kernel
theorem dX6_parted_46 : decode cX6_parted 46 = .ok (.iload_n 3, 1) := by decide +kernel
theorem dX6_parted_47 : decode cX6_parted 47 = .ok (.ireturn, 1) := by decide +kernel
theorem dX6_bits_0 : decode cX6_bits 0 = .ok (.iconst 0, 1) := by decide +kernel
theorem dX6_bits_1 : decode cX6_bits 1 = .ok (.istore_n 1, 1) := by decide +kernel
theorem dX6_bits_2 : decode cX6_bits 2 = .ok (.iconst 0, 1) := by decide +kernel
theorem dX6_bits_3 : decode cX6_bits 3 = .ok (.istore_n 2, 1) := by decide +kernel
theorem dX6_bits_4 : decode cX6_bits 4 = .ok (.iload_n 2, 1) := by decide +kernel
theorem dX6_bits_5 : decode cX6_bits 5 = .ok (.bipush 8, 2) := by decide +kernel
theorem dX6_bits_7 : decode cX6_bits 7 = .ok (.if_icmp .ge 17, 3) := by decide +kernel
theorem dX6_bits_10 : decode cX6_bits 10 = .ok (.iload_n 1, 1) := by decide +kernel
theorem dX6_bits_11 : decode cX6_bits 11 = .ok (.iload_n 0, 1) := by decide +kernel
theorem dX6_bits_12 : decode cX6_bits 12 = .ok (.iload_n 2, 1) := by decide +kernel
theorem dX6_bits_13 : decode cX6_bits 13 = .ok (.ishr, 1) := by decide +kernel
theorem dX6_bits_14 : decode cX6_bits 14 = .ok (.iconst 1, 1) := by decide +kernel
theorem dX6_bits_15 : decode cX6_bits 15 = .ok (.iand, 1) := by decide +kernel
theorem dX6_bits_16 : decode cX6_bits 16 = .ok (.iadd, 1) := by decide +kernel
theorem dX6_bits_17 : decode cX6_bits 17 = .ok (.istore_n 1, 1) := by decide +kernel
theorem dX6_bits_18 : decode cX6_bits 18 = .ok (.iinc 2 1, 3) := by decide +kernel
theorem dX6_bits_21 : decode cX6_bits 21 = .ok (.goto (-17), 3) := by decide +kernel
theorem dX6_bits_24 : decode cX6_bits 24 = .ok (.iload_n 1, 1) := by decide +kernel
theorem dX6_bits_25 : decode cX6_bits 25 = .ok (.ireturn, 1) := by decide +kernel
set_option maxRecDepth 20000 in
theorem ggX6_way_X6_isRoom : GoodIn wsX6_way wsX6_isRoom := goodIn_r _ [5, 6, 7, 8, 4, 9, 10, 11, 12, 13, 14, 15, 16, 17, 18, 19, 20, 21, 22, 23, 24, 25, 26, 27, 28, 29, 30, 31, 32, 33, 34, 35, 36, 37, 38, 39, 40, 41, 42, 43, 44, 45, 46, 47, 48, 49, 50, 51, 52, 53, 54, 55, 56, 57, 58, 59, 60, 61, 62, 63, 64, 72, 73, 74, 75, 76, 77, 78, 79, 80, 81, 82, 83] (by decide +kernel) (by decide +kernel)
set_option maxRecDepth 20000 in
theorem gX6_way_X6_isRoom : GoodIn wsX6_way (wsV RX6 113 RX6 yX6_isRoom wsX6_isRoom) := goodIn_app (goodIn_of _ (by decide +kernel)) ggX6_way_X6_isRoom
set_option maxRecDepth 20000 in
theorem ggX6_way_X6_parted : GoodIn wsX6_way wsX6_parted := goodIn_r _ [68, 16, 32, 33, 4, 34, 17, 18, 19, 72, 73, 74, 75, 76, 77, 78, 79, 80, 81, 82, 83] (by decide +kernel) (by decide +kernel)
set_option maxRecDepth 20000 in
theorem gX6_way_X6_parted : GoodIn wsX6_way (wsV RX6 134 RX6 yX6_parted wsX6_parted) := goodIn_app (goodIn_of _ (by decide +kernel)) ggX6_way_X6_parted
set_option maxRecDepth 20000 in
theorem ggX6_way_X6_bits : GoodIn wsX6_way wsX6_bits := goodIn_r _ [71] (by decide +kernel) (by decide +kernel)
set_option maxRecDepth 20000 in
theorem gX6_way_X6_bits : GoodIn wsX6_way (va_wsS RX6 137 yX6_bits wsX6_bits) := goodIn_app (goodIn_of _ (by decide +kernel)) ggX6_way_X6_bits
theorem dX6_way_0 : decode cX6_way 0 = .ok (.aload_n 0, 1) := by decide +kernel
theorem dX6_way_1 : decode cX6_way 1 = .ok (.iload_n 1, 1) := by decide +kernel
theorem dX6_way_2 : decode cX6_way 2 = .ok (.invokevirtual 113, 3) := by decide +kernel
theorem dX6_way_5 : decode cX6_way 5 = .ok (.ifCond .eq 23, 3) := by decide +kernel
theorem dX6_way_8 : decode cX6_way 8 = .ok (.aload_n 0, 1) := by decide +kernel
theorem dX6_way_9 : decode cX6_way 9 = .ok (.iload_n 2, 1) := by decide +kernel
theorem dX6_way_10 : decode cX6_way 10 = .ok (.invokevirtual 113, 3) := by decide +kernel
theorem dX6_way_13 : decode cX6_way 13 = .ok (.ifCond .eq 15, 3) := by decide +kernel
theorem dX6_way_16 : decode cX6_way 16 = .ok (.aload_n 0, 1) := by decide +kernel
theorem dX6_way_17 : decode cX6_way 17 = .ok (.iload_n 1, 1) := by decide +kernel
theorem dX6_way_18 : decode cX6_way 18 = .ok (.iload_n 2, 1) := by decide +kernel
theorem dX6_way_19 : decode cX6_way 19 = .ok (.invokevirtual 134, 3) := by decide +kernel
theorem dX6_way_22 : decode cX6_way 22 = .ok (.invokestatic 137, 3) := by decide +kernel
theorem dX6_way_25 : decode cX6_way 25 = .ok (.goto 4, 3) := by decide +kernel
theorem dX6_way_28 : decode cX6_way 28 = .ok (.iconst (-1), 1) := by decide +kernel
theorem dX6_way_29 : decode cX6_way 29 = .ok (.ireturn, 1) := by decide +kernel
set_option maxRecDepth 20000 in
theorem ggX6_step_X6_isRoom : GoodIn wsX6_step wsX6_isRoom := goodIn_r _ [6, 7, 8, 9, 5, 10, 11, 12, 13, 14, 15, 16, 1, 17, 18, 19, 20, 21, 22, 23, 24, 25, 26, 27, 28, 29, 30, 31, 32, 33, 34, 35, 36, 37, 38, 39, 40, 41, 42, 43, 44, 45, 46, 47, 48, 49, 50, 51, 52, 53, 54, 55, 56, 57, 58, 59, 60, 61, 62, 63, 64, 76, 77, 78, 79, 80, 81, 82, 83, 84, 85, 86, 87] (by decide +kernel) (by decide +kernel)
set_option maxRecDepth 20000 in
theorem gX6_step_X6_isRoom : GoodIn wsX6_step (wsV RX6 113 RX6 yX6_isRoom wsX6_isRoom) := goodIn_app (goodIn_of _ (by decide +kernel)) ggX6_step_X6_isRoom
set_option maxRecDepth 20000 in
theorem ggX6_step_X6_parted : GoodIn wsX6_step wsX6_parted := goodIn_r _ [68, 1, 32, 33, 5, 34, 17, 18, 19, 76, 77, 78, 79, 80, 81, 82, 83, 84, 85, 86, 87] (by decide +kernel) (by decide +kernel)
set_option maxRecDepth 20000 in
theorem gX6_step_X6_parted : GoodIn wsX6_step (wsV RX6 134 RX6 yX6_parted wsX6_parted) := goodIn_app (goodIn_of _ (by decide +kernel)) ggX6_step_X6_parted
set_option maxRecDepth 20000 in
theorem ggX6_step_X6_walls : GoodIn wsX6_step wsX6_walls := goodIn_r _ [72, 1, 2, 3, 4, 5, 6, 7, 8, 9, 10, 11, 12, 13, 14, 15, 16, 17, 18, 19, 20, 21, 22, 23, 24, 25, 26, 27, 28, 29, 30, 31, 32, 33, 34, 35, 36, 37, 38, 39, 40, 41, 42, 43, 44, 45, 46, 47, 48, 49, 50, 51, 52, 53, 54, 55, 56, 57, 58, 59, 60, 61, 62, 63, 64, 73, 74, 75, 76, 77, 78, 79, 80, 81, 82, 83, 84, 85, 86, 87] (by decide +kernel) (by decide +kernel)
set_option maxRecDepth 20000 in
theorem gX6_step_X6_walls : GoodIn wsX6_step (wsV RX6 140 RX6 yX6_walls wsX6_walls) := goodIn_app (goodIn_of _ (by decide +kernel)) ggX6_step_X6_walls
theorem dX6_step_0 : decode cX6_step 0 = .ok (.aload_n 0, 1) := by decide +kernel
theorem dX6_step_1 : decode cX6_step 1 = .ok (.iload_n 1, 1) := by decide +kernel
theorem dX6_step_2 : decode cX6_step 2 = .ok (.invokevirtual 113, 3) := by decide +kernel
theorem dX6_step_5 : decode cX6_step 5 = .ok (.ifCond .eq 11, 3) := by decide +kernel
theorem dX6_step_8 : decode cX6_step 8 = .ok (.aload_n 0, 1) := by decide +kernel
theorem dX6_step_9 : decode cX6_step 9 = .ok (.iload_n 2, 1) := by decide +kernel
theorem dX6_step_10 : decode cX6_step 10 = .ok (.invokevirtual 113, 3) := by decide +kernel
theorem dX6_step_13 : decode cX6_step 13 = .ok (.ifCond .ne 5, 3) := by decide +kernel
theorem dX6_step_16 : decode cX6_step 16 = .ok (.iconst (-1), 1) := by decide +kernel
theorem dX6_step_17 : decode cX6_step 17 = .ok (.ireturn, 1) := by decide +kernel
theorem dX6_step_18 : decode cX6_step 18 = .ok (.aload_n 0, 1) := by decide +kernel
theorem dX6_step_19 : decode cX6_step 19 = .ok (.iload_n 1, 1) := by decide +kernel
theorem dX6_step_20 : decode cX6_step 20 = .ok (.iload_n 2, 1) := by decide +kernel
theorem dX6_step_21 : decode cX6_step 21 = .ok (.invokevirtual 134, 3) := by decide +kernel
theorem dX6_step_24 : decode cX6_step 24 = .ok (.aload_n 0, 1) := by decide +kernel
theorem dX6_step_25 : decode cX6_step 25 = .ok (.iload_n 1, 1) := by decide +kernel
theorem dX6_step_26 : decode cX6_step 26 = .ok (.invokevirtual 140, 3) := by decide +kernel
theorem dX6_step_29 : decode cX6_step 29 = .ok (.iand, 1) := by decide +kernel
theorem dX6_step_30 : decode cX6_step 30 = .ok (.istore_n 3, 1) := by decide +kernel
theorem dX6_step_31 : decode cX6_step 31 = .ok (.iconst 0, 1) := by decide +kernel
theorem dX6_step_32 : decode cX6_step 32 = .ok (.istore 4, 2) := by decide +kernel
theorem dX6_step_34 : decode cX6_step 34 = .ok (.iload 4, 2) := by decide +kernel
theorem dX6_step_36 : decode cX6_step 36 = .ok (.aload_n 0, 1) := by decide +kernel
theorem dX6_step_37 : decode cX6_step 37 = .ok (.getfield 49, 3) := by decide +kernel
theorem dX6_step_40 : decode cX6_step 40 = .ok (.if_icmp .ge 22, 3) := by decide +kernel
theorem dX6_step_43 : decode cX6_step 43 = .ok (.iload_n 3, 1) := by decide +kernel
theorem dX6_step_44 : decode cX6_step 44 = .ok (.iload 4, 2) := by decide +kernel
theorem dX6_step_46 : decode cX6_step 46 = .ok (.ishr, 1) := by decide +kernel
theorem dX6_step_47 : decode cX6_step 47 = .ok (.iconst 1, 1) := by decide +kernel
theorem dX6_step_48 : decode cX6_step 48 = .ok (.iand, 1) := by decide +kernel
theorem dX6_step_49 : decode cX6_step 49 = .ok (.iconst 1, 1) := by decide +kernel
theorem dX6_step_50 : decode cX6_step 50 = .ok (.if_icmp .ne 6, 3) := by decide +kernel
theorem dX6_step_53 : decode cX6_step 53 = .ok (.iload 4, 2) := by decide +kernel
theorem dX6_step_55 : decode cX6_step 55 = .ok (.ireturn, 1) := by decide +kernel
theorem dX6_step_56 : decode cX6_step 56 = .ok (.iinc 4 1, 3) := by decide +kernel
theorem dX6_step_59 : decode cX6_step 59 = .ok (.goto (-25), 3) := by decide +kernel
theorem dX6_step_62 : decode cX6_step 62 = .ok (.iconst (-1), 1) := by decide +kernel
theorem dX6_step_63 : decode cX6_step 63 = .ok (.ireturn, 1) := by decide +kernel
set_option maxRecDepth 20000 in
theorem ggX6_far_X6_power : GoodIn wsX6_far wsX6_power := goodIn_r _ [5] (by decide +kernel) (by decide +kernel)
set_option maxRecDepth 20000 in
theorem gX6_far_X6_power : GoodIn wsX6_far (va_wsS RX6 56 yX6_power wsX6_power) := goodIn_app (goodIn_of _ (by decide +kernel)) ggX6_far_X6_power
set_option maxRecDepth 20000 in
theorem ggX6_far_X6_isRoom : GoodIn wsX6_far wsX6_isRoom := goodIn_r _ [9, 10, 11, 12, 4, 13, 14, 15, 16, 17, 18, 19, 1, 2, 3, 5, 20, 21, 22, 23, 24, 25, 26, 27, 28, 29, 30, 31, 32, 33, 34, 35, 36, 37, 38, 39, 40, 41, 42, 43, 44, 45, 46, 47, 48, 49, 50, 51, 52, 53, 54, 55, 56, 57, 58, 59, 60, 61, 62, 63, 64, 72, 73, 74, 75, 76, 77, 78, 79, 80, 81, 82, 83] (by decide +kernel) (by decide +kernel)
set_option maxRecDepth 20000 in
theorem gX6_far_X6_isRoom : GoodIn wsX6_far (wsV RX6 113 RX6 yX6_isRoom wsX6_isRoom) := goodIn_app (goodIn_of _ (by decide +kernel)) ggX6_far_X6_isRoom
set_option maxRecDepth 20000 in
theorem ggX6_far_X6_parted : GoodIn wsX6_far wsX6_parted := goodIn_r _ [68, 1, 32, 33, 4, 34, 2, 3, 5, 72, 73, 74, 75, 76, 77, 78, 79, 80, 81, 82, 83] (by decide +kernel) (by decide +kernel)
set_option maxRecDepth 20000 in
theorem gX6_far_X6_parted : GoodIn wsX6_far (wsV RX6 134 RX6 yX6_parted wsX6_parted) := goodIn_app (goodIn_of _ (by decide +kernel)) ggX6_far_X6_parted
set_option maxRecDepth 20000 in
theorem ggX6_far_X6_bits : GoodIn wsX6_far wsX6_bits := goodIn_r _ [71] (by decide +kernel) (by decide +kernel)
set_option maxRecDepth 20000 in
theorem gX6_far_X6_bits : GoodIn wsX6_far (va_wsS RX6 137 yX6_bits wsX6_bits) := goodIn_app (goodIn_of _ (by decide +kernel)) ggX6_far_X6_bits
theorem dX6_far_0 : decode cX6_far 0 = .ok (.iconst 0, 1) := by decide +kernel
theorem dX6_far_1 : decode cX6_far 1 = .ok (.istore_n 1, 1) := by decide +kernel
theorem dX6_far_2 : decode cX6_far 2 = .ok (.iconst 0, 1) := by decide +kernel
theorem dX6_far_3 : decode cX6_far 3 = .ok (.istore_n 2, 1) := by decide +kernel
theorem dX6_far_4 : decode cX6_far 4 = .ok (.iload_n 2, 1) := by decide +kernel
theorem dX6_far_5 : decode cX6_far 5 = .ok (.aload_n 0, 1) := by decide +kernel
theorem dX6_far_6 : decode cX6_far 6 = .ok (.getfield 49, 3) := by decide +kernel
theorem dX6_far_9 : decode cX6_far 9 = .ok (.invokestatic 56, 3) := by decide +kernel
theorem dX6_far_12 : decode cX6_far 12 = .ok (.if_icmp .ge 64, 3) := by decide +kernel
theorem dX6_far_15 : decode cX6_far 15 = .ok (.aload_n 0, 1) := by decide +kernel
theorem dX6_far_16 : decode cX6_far 16 = .ok (.iload_n 2, 1) := by decide +kernel
theorem dX6_far_17 : decode cX6_far 17 = .ok (.invokevirtual 113, 3) := by decide +kernel
theorem dX6_far_20 : decode cX6_far 20 = .ok (.ifCond .ne 6, 3) := by decide +kernel
theorem dX6_far_23 : decode cX6_far 23 = .ok (.goto 47, 3) := by decide +kernel
theorem dX6_far_26 : decode cX6_far 26 = .ok (.iconst 0, 1) := by decide +kernel
theorem dX6_far_27 : decode cX6_far 27 = .ok (.istore_n 3, 1) := by decide +kernel
theorem dX6_far_28 : decode cX6_far 28 = .ok (.iload_n 3, 1) := by decide +kernel
theorem dX6_far_29 : decode cX6_far 29 = .ok (.iload_n 2, 1) := by decide +kernel
theorem dX6_far_30 : decode cX6_far 30 = .ok (.if_icmp .ge 40, 3) := by decide +kernel
theorem dX6_far_33 : decode cX6_far 33 = .ok (.aload_n 0, 1) := by decide +kernel
theorem dX6_far_34 : decode cX6_far 34 = .ok (.iload_n 3, 1) := by decide +kernel
theorem dX6_far_35 : decode cX6_far 35 = .ok (.invokevirtual 113, 3) := by decide +kernel
theorem dX6_far_38 : decode cX6_far 38 = .ok (.ifCond .ne 6, 3) := by decide +kernel
theorem dX6_far_41 : decode cX6_far 41 = .ok (.goto 23, 3) := by decide +kernel
theorem dX6_far_44 : decode cX6_far 44 = .ok (.aload_n 0, 1) := by decide +kernel
theorem dX6_far_45 : decode cX6_far 45 = .ok (.iload_n 2, 1) := by decide +kernel
theorem dX6_far_46 : decode cX6_far 46 = .ok (.iload_n 3, 1) := by decide +kernel
theorem dX6_far_47 : decode cX6_far 47 = .ok (.invokevirtual 134, 3) := by decide +kernel
theorem dX6_far_50 : decode cX6_far 50 = .ok (.invokestatic 137, 3) := by decide +kernel
theorem dX6_far_53 : decode cX6_far 53 = .ok (.istore 4, 2) := by decide +kernel
theorem dX6_far_55 : decode cX6_far 55 = .ok (.iload 4, 2) := by decide +kernel
theorem dX6_far_57 : decode cX6_far 57 = .ok (.iload_n 1, 1) := by decide +kernel
theorem dX6_far_58 : decode cX6_far 58 = .ok (.if_icmp .le 6, 3) := by decide +kernel
theorem dX6_far_61 : decode cX6_far 61 = .ok (.iload 4, 2) := by decide +kernel
theorem dX6_far_63 : decode cX6_far 63 = .ok (.istore_n 1, 1) := by decide +kernel
theorem dX6_far_64 : decode cX6_far 64 = .ok (.iinc 3 1, 3) := by decide +kernel
theorem dX6_far_67 : decode cX6_far 67 = .ok (.goto (-39), 3) := by decide +kernel
theorem dX6_far_70 : decode cX6_far 70 = .ok (.iinc 2 1, 3) := by decide +kernel
theorem dX6_far_73 : decode cX6_far 73 = .ok (.goto (-69), 3) := by decide +kernel
theorem dX6_far_76 : decode cX6_far 76 = .ok (.iload_n 1, 1) := by decide +kernel
theorem dX6_far_77 : decode cX6_far 77 = .ok (.ireturn, 1) := by decide +kernel
set_option maxRecDepth 20000 in
theorem ggX6_left_X6_in : GoodIn wsX6_left wsX6_in := goodIn_r _ [6] (by decide +kernel) (by decide +kernel)
set_option maxRecDepth 20000 in
theorem gX6_left_X6_in : GoodIn wsX6_left (va_wsS RX6 45 yX6_in wsX6_in) := goodIn_app (goodIn_of _ (by decide +kernel)) ggX6_left_X6_in
set_option maxRecDepth 20000 in
theorem ggX6_left_X6_at : GoodIn wsX6_left wsX6_at := goodIn_r _ [10, 11, 12, 13, 14, 15, 16, 17, 18, 19, 20, 21, 22, 23] (by decide +kernel) (by decide +kernel)
set_option maxRecDepth 20000 in
theorem gX6_left_X6_at : GoodIn wsX6_left (wsV RX6 41 RX6 yX6_at wsX6_at) := goodIn_app (goodIn_of _ (by decide +kernel)) ggX6_left_X6_at
theorem dX6_left_0 : decode cX6_left 0 = .ok (.iload_n 1, 1) := by decide +kernel
theorem dX6_left_1 : decode cX6_left 1 = .ok (.iconst 2, 1) := by decide +kernel
theorem dX6_left_2 : decode cX6_left 2 = .ok (.bipush 31, 2) := by decide +kernel
theorem dX6_left_4 : decode cX6_left 4 = .ok (.invokestatic 45, 3) := by decide +kernel
theorem dX6_left_7 : decode cX6_left 7 = .ok (.ifCond .ne 5, 3) := by decide +kernel
theorem dX6_left_10 : decode cX6_left 10 = .ok (.iconst (-1), 1) := by decide +kernel
theorem dX6_left_11 : decode cX6_left 11 = .ok (.ireturn, 1) := by decide +kernel
theorem dX6_left_12 : decode cX6_left 12 = .ok (.iconst 2, 1) := by decide +kernel
theorem dX6_left_13 : decode cX6_left 13 = .ok (.istore_n 2, 1) := by decide +kernel
theorem dX6_left_14 : decode cX6_left 14 = .ok (.iload_n 2, 1) := by decide +kernel
theorem dX6_left_15 : decode cX6_left 15 = .ok (.iload_n 1, 1) := by decide +kernel
theorem dX6_left_16 : decode cX6_left 16 = .ok (.if_icmp .ge 17, 3) := by decide +kernel
theorem dX6_left_19 : decode cX6_left 19 = .ok (.iload_n 1, 1) := by decide +kernel
theorem dX6_left_20 : decode cX6_left 20 = .ok (.iload_n 2, 1) := by decide +kernel
theorem dX6_left_21 : decode cX6_left 21 = .ok (.irem, 1) := by decide +kernel
theorem dX6_left_22 : decode cX6_left 22 = .ok (.ifCond .ne 5, 3) := by decide +kernel
theorem dX6_left_25 : decode cX6_left 25 = .ok (.iconst (-1), 1) := by decide +kernel
theorem dX6_left_26 : decode cX6_left 26 = .ok (.ireturn, 1) := by decide +kernel
theorem dX6_left_27 : decode cX6_left 27 = .ok (.iinc 2 1, 3) := by decide +kernel
theorem dX6_left_30 : decode cX6_left 30 = .ok (.goto (-16), 3) := by decide +kernel
theorem dX6_left_33 : decode cX6_left 33 = .ok (.aload_n 0, 1) := by decide +kernel
theorem dX6_left_34 : decode cX6_left 34 = .ok (.getfield 37, 3) := by decide +kernel
theorem dX6_left_37 : decode cX6_left 37 = .ok (.iconst 1, 1) := by decide +kernel
theorem dX6_left_38 : decode cX6_left 38 = .ok (.if_icmp .ne 7, 3) := by decide +kernel
theorem dX6_left_41 : decode cX6_left 41 = .ok (.iload_n 1, 1) := by decide +kernel
theorem dX6_left_42 : decode cX6_left 42 = .ok (.goto 22, 3) := by decide +kernel
theorem dX6_left_45 : decode cX6_left 45 = .ok (.aload_n 0, 1) := by decide +kernel
theorem dX6_left_46 : decode cX6_left 46 = .ok (.getfield 37, 3) := by decide +kernel
theorem dX6_left_49 : decode cX6_left 49 = .ok (.iconst 2, 1) := by decide +kernel
theorem dX6_left_50 : decode cX6_left 50 = .ok (.if_icmp .ne 9, 3) := by decide +kernel
theorem dX6_left_53 : decode cX6_left 53 = .ok (.iload_n 1, 1) := by decide +kernel
theorem dX6_left_54 : decode cX6_left 54 = .ok (.iload_n 1, 1) := by decide +kernel
theorem dX6_left_55 : decode cX6_left 55 = .ok (.imul, 1) := by decide +kernel
theorem dX6_left_56 : decode cX6_left 56 = .ok (.goto 8, 3) := by decide +kernel
theorem dX6_left_59 : decode cX6_left 59 = .ok (.iload_n 1, 1) := by decide +kernel
theorem dX6_left_60 : decode cX6_left 60 = .ok (.iload_n 1, 1) := by decide +kernel
theorem dX6_left_61 : decode cX6_left 61 = .ok (.imul, 1) := by decide +kernel
theorem dX6_left_62 : decode cX6_left 62 = .ok (.iload_n 1, 1) := by decide +kernel
theorem dX6_left_63 : decode cX6_left 63 = .ok (.imul, 1) := by decide +kernel
theorem dX6_left_64 : decode cX6_left 64 = .ok (.istore_n 2, 1) := by decide +kernel
theorem dX6_left_65 : decode cX6_left 65 = .ok (.iconst 0, 1) := by decide +kernel
theorem dX6_left_66 : decode cX6_left 66 = .ok (.istore_n 3, 1) := by decide +kernel
theorem dX6_left_67 : decode cX6_left 67 = .ok (.iconst 0, 1) := by decide +kernel
theorem dX6_left_68 : decode cX6_left 68 = .ok (.istore 4, 2) := by decide +kernel
theorem dX6_left_70 : decode cX6_left 70 = .ok (.iload 4, 2) := by decide +kernel
theorem dX6_left_72 : decode cX6_left 72 = .ok (.iload_n 2, 1) := by decide +kernel
theorem dX6_left_73 : decode cX6_left 73 = .ok (.if_icmp .ge 122, 3) := by decide +kernel
theorem dX6_left_76 : decode cX6_left 76 = .ok (.iload 4, 2) := by decide +kernel
theorem dX6_left_78 : decode cX6_left 78 = .ok (.iload_n 1, 1) := by decide +kernel
theorem dX6_left_79 : decode cX6_left 79 = .ok (.irem, 1) := by decide +kernel
theorem dX6_left_80 : decode cX6_left 80 = .ok (.istore 5, 2) := by decide +kernel
theorem dX6_left_82 : decode cX6_left 82 = .ok (.iload 4, 2) := by decide +kernel
theorem dX6_left_84 : decode cX6_left 84 = .ok (.iload_n 1, 1) := by decide +kernel
theorem dX6_left_85 : decode cX6_left 85 = .ok (.idiv, 1) := by decide +kernel
theorem dX6_left_86 : decode cX6_left 86 = .ok (.iload_n 1, 1) := by decide +kernel
theorem dX6_left_87 : decode cX6_left 87 = .ok (.irem, 1) := by decide +kernel
theorem dX6_left_88 : decode cX6_left 88 = .ok (.istore 6, 2) := by decide +kernel
theorem dX6_left_90 : decode cX6_left 90 = .ok (.iload 4, 2) := by decide +kernel
theorem dX6_left_92 : decode cX6_left 92 = .ok (.iload_n 1, 1) := by decide +kernel
theorem dX6_left_93 : decode cX6_left 93 = .ok (.idiv, 1) := by decide +kernel
theorem dX6_left_94 : decode cX6_left 94 = .ok (.iload_n 1, 1) := by decide +kernel
theorem dX6_left_95 : decode cX6_left 95 = .ok (.idiv, 1) := by decide +kernel
theorem dX6_left_96 : decode cX6_left 96 = .ok (.istore 7, 2) := by decide +kernel
theorem dX6_left_98 : decode cX6_left 98 = .ok (.iconst 1, 1) := by decide +kernel
theorem dX6_left_99 : decode cX6_left 99 = .ok (.istore 8, 2) := by decide +kernel
theorem dX6_left_101 : decode cX6_left 101 = .ok (.iconst 0, 1) := by decide +kernel
theorem dX6_left_102 : decode cX6_left 102 = .ok (.istore 9, 2) := by decide +kernel
theorem dX6_left_104 : decode cX6_left 104 = .ok (.iload 9, 2) := by decide +kernel
theorem dX6_left_106 : decode cX6_left 106 = .ok (.aload_n 0, 1) := by decide +kernel
theorem dX6_left_107 : decode cX6_left 107 = .ok (.getfield 49, 3) := by decide +kernel
theorem dX6_left_110 : decode cX6_left 110 = .ok (.if_icmp .ge 66, 3) := by decide +kernel
theorem dX6_left_113 : decode cX6_left 113 = .ok (.iload 8, 2) := by decide +kernel
theorem dX6_left_115 : decode cX6_left 115 = .ok (.ifCond .eq 61, 3) := by decide +kernel
theorem dX6_left_118 : decode cX6_left 118 = .ok (.aload_n 0, 1) := by decide +kernel
theorem dX6_left_119 : decode cX6_left 119 = .ok (.iload 9, 2) := by decide +kernel
theorem dX6_left_121 : decode cX6_left 121 = .ok (.iconst 0, 1) := by decide +kernel
theorem dX6_left_122 : decode cX6_left 122 = .ok (.invokevirtual 41, 3) := by decide +kernel
theorem dX6_left_125 : decode cX6_left 125 = .ok (.iload 5, 2) := by decide +kernel
theorem dX6_left_127 : decode cX6_left 127 = .ok (.imul, 1) := by decide +kernel
theorem dX6_left_128 : decode cX6_left 128 = .ok (.aload_n 0, 1) := by decide +kernel
theorem dX6_left_129 : decode cX6_left 129 = .ok (.iload 9, 2) := by decide +kernel
theorem dX6_left_131 : decode cX6_left 131 = .ok (.iconst 1, 1) := by decide +kernel
theorem dX6_left_132 : decode cX6_left 132 = .ok (.invokevirtual 41, 3) := by decide +kernel
theorem dX6_left_135 : decode cX6_left 135 = .ok (.iload 6, 2) := by decide +kernel
theorem dX6_left_137 : decode cX6_left 137 = .ok (.imul, 1) := by decide +kernel
theorem dX6_left_138 : decode cX6_left 138 = .ok (.iadd, 1) := by decide +kernel
theorem dX6_left_139 : decode cX6_left 139 = .ok (.aload_n 0, 1) := by decide +kernel
theorem dX6_left_140 : decode cX6_left 140 = .ok (.iload 9, 2) := by decide +kernel
theorem dX6_left_142 : decode cX6_left 142 = .ok (.iconst 2, 1) := by decide +kernel
theorem dX6_left_143 : decode cX6_left 143 = .ok (.invokevirtual 41, 3) := by decide +kernel
theorem dX6_left_146 : decode cX6_left 146 = .ok (.iload 7, 2) := by decide +kernel
theorem dX6_left_148 : decode cX6_left 148 = .ok (.imul, 1) := by decide +kernel
theorem dX6_left_149 : decode cX6_left 149 = .ok (.iadd, 1) := by decide +kernel
theorem dX6_left_150 : decode cX6_left 150 = .ok (.aload_n 0, 1) := by decide +kernel
theorem dX6_left_151 : decode cX6_left 151 = .ok (.iload 9, 2) := by decide +kernel
theorem dX6_left_153 : decode cX6_left 153 = .ok (.iconst 3, 1) := by decide +kernel
theorem dX6_left_154 : decode cX6_left 154 = .ok (.invokevirtual 41, 3) := by decide +kernel
theorem dX6_left_157 : decode cX6_left 157 = .ok (.isub, 1) := by decide +kernel
theorem dX6_left_158 : decode cX6_left 158 = .ok (.iload_n 1, 1) := by decide +kernel
theorem dX6_left_159 : decode cX6_left 159 = .ok (.irem, 1) := by decide +kernel
theorem dX6_left_160 : decode cX6_left 160 = .ok (.ifCond .eq 7, 3) := by decide +kernel
theorem dX6_left_163 : decode cX6_left 163 = .ok (.iconst 1, 1) := by decide +kernel
theorem dX6_left_164 : decode cX6_left 164 = .ok (.goto 4, 3) := by decide +kernel
theorem dX6_left_167 : decode cX6_left 167 = .ok (.iconst 0, 1) := by decide +kernel
theorem dX6_left_168 : decode cX6_left 168 = .ok (.istore 8, 2) := by decide +kernel
theorem dX6_left_170 : decode cX6_left 170 = .ok (.iinc 9 1, 3) := by decide +kernel
theorem dX6_left_173 : decode cX6_left 173 = .ok (.goto (-69), 3) := by decide +kernel
theorem dX6_left_176 : decode cX6_left 176 = .ok (.iload_n 3, 1) := by decide +kernel
theorem dX6_left_177 : decode cX6_left 177 = .ok (.iload 8, 2) := by decide +kernel
theorem dX6_left_179 : decode cX6_left 179 = .ok (.ifCond .eq 7, 3) := by decide +kernel
theorem dX6_left_182 : decode cX6_left 182 = .ok (.iconst 1, 1) := by decide +kernel
theorem dX6_left_183 : decode cX6_left 183 = .ok (.goto 4, 3) := by decide +kernel
theorem dX6_left_186 : decode cX6_left 186 = .ok (.iconst 0, 1) := by decide +kernel
theorem dX6_left_187 : decode cX6_left 187 = .ok (.iadd, 1) := by decide +kernel
theorem dX6_left_188 : decode cX6_left 188 = .ok (.istore_n 3, 1) := by decide +kernel
theorem dX6_left_189 : decode cX6_left 189 = .ok (.iinc 4 1, 3) := by decide +kernel
theorem dX6_left_192 : decode cX6_left 192 = .ok (.goto (-122), 3) := by decide +kernel
theorem dX6_left_195 : decode cX6_left 195 = .ok (.iload_n 3, 1) := by decide +kernel
theorem dX6_left_196 : decode cX6_left 196 = .ok (.ireturn, 1) := by decide +kernel
set_option maxRecDepth 20000 in
theorem ggX6_count_X6_power : GoodIn wsX6_count wsX6_power := goodIn_r _ [6] (by decide +kernel) (by decide +kernel)
set_option maxRecDepth 20000 in
theorem gX6_count_X6_power : GoodIn wsX6_count (va_wsS RX6 56 yX6_power wsX6_power) := goodIn_app (goodIn_of _ (by decide +kernel)) ggX6_count_X6_power
set_option maxRecDepth 20000 in
theorem ggX6_count_X6_isRoom : GoodIn wsX6_count wsX6_isRoom := goodIn_r _ [10, 11, 12, 13, 5, 14, 15, 16, 17, 18, 19, 20, 2, 3, 4, 6, 21, 22, 23, 24, 1, 25, 26, 27, 28, 29, 30, 31, 32, 33, 34, 35, 36, 37, 38, 39, 40, 41, 42, 43, 44, 45, 46, 47, 48, 49, 50, 51, 52, 53, 54, 55, 56, 57, 58, 59, 60, 61, 62, 63, 64, 70, 71, 72, 73, 74, 75, 76, 77, 78, 79, 80, 81] (by decide +kernel) (by decide +kernel)
set_option maxRecDepth 20000 in
theorem gX6_count_X6_isRoom : GoodIn wsX6_count (wsV RX6 113 RX6 yX6_isRoom wsX6_isRoom) := goodIn_app (goodIn_of _ (by decide +kernel)) ggX6_count_X6_isRoom
set_option maxRecDepth 20000 in
theorem ggX6_count_X6_isFace : GoodIn wsX6_count wsX6_isFace := goodIn_r _ [14, 15, 16, 17, 18, 5, 19, 20, 2, 3, 4, 6, 21, 22, 23, 24, 1, 25, 26, 27, 28, 29, 30, 31, 32, 33, 34, 35, 36, 37, 38, 39, 40, 41, 42, 43, 44, 45, 46, 47, 48, 49, 50, 51, 52, 53, 54, 55, 56, 57, 58, 59, 60, 70, 71, 72, 73, 74, 75, 76, 77, 78, 79, 80, 81] (by decide +kernel) (by decide +kernel)
set_option maxRecDepth 20000 in
theorem gX6_count_X6_isFace : GoodIn wsX6_count (wsV RX6 100 RX6 yX6_isFace wsX6_isFace) := goodIn_app (goodIn_of _ (by decide +kernel)) ggX6_count_X6_isFace
set_option maxRecDepth 20000 in
theorem ggX6_count_X6_rank : GoodIn wsX6_count wsX6_rank := goodIn_r _ [68, 2, 69, 39, 40, 41, 5, 42, 43, 70, 71, 72, 73, 74, 75, 76, 77, 78, 79, 80, 81] (by decide +kernel) (by decide +kernel)
set_option maxRecDepth 20000 in
theorem gX6_count_X6_rank : GoodIn wsX6_count (wsV RX6 97 RX6 yX6_rank wsX6_rank) := goodIn_app (goodIn_of _ (by decide +kernel)) ggX6_count_X6_rank
theorem dX6_count_0 : decode cX6_count 0 = .ok (.iconst 0, 1) := by decide +kernel
theorem dX6_count_1 : decode cX6_count 1 = .ok (.istore_n 2, 1) := by decide +kernel
theorem dX6_count_2 : decode cX6_count 2 = .ok (.iload_n 1, 1) := by decide +kernel
theorem dX6_count_3 : decode cX6_count 3 = .ok (.tableswitch 131 0 4 #[33, 38, 43, 80, 117], 33) := by decide +kernel
theorem dX6_count_36 : decode cX6_count 36 = .ok (.aload_n 0, 1) := by decide +kernel
theorem dX6_count_37 : decode cX6_count 37 = .ok (.getfield 37, 3) := by decide +kernel
theorem dX6_count_40 : decode cX6_count 40 = .ok (.ireturn, 1) := by decide +kernel
theorem dX6_count_41 : decode cX6_count 41 = .ok (.aload_n 0, 1) := by decide +kernel
theorem dX6_count_42 : decode cX6_count 42 = .ok (.getfield 49, 3) := by decide +kernel
theorem dX6_count_45 : decode cX6_count 45 = .ok (.ireturn, 1) := by decide +kernel
theorem dX6_count_46 : decode cX6_count 46 = .ok (.iconst 0, 1) := by decide +kernel
theorem dX6_count_47 : decode cX6_count 47 = .ok (.istore_n 3, 1) := by decide +kernel
theorem dX6_count_48 : decode cX6_count 48 = .ok (.iload_n 3, 1) := by decide +kernel
theorem dX6_count_49 : decode cX6_count 49 = .ok (.aload_n 0, 1) := by decide +kernel
theorem dX6_count_50 : decode cX6_count 50 = .ok (.getfield 49, 3) := by decide +kernel
theorem dX6_count_53 : decode cX6_count 53 = .ok (.invokestatic 56, 3) := by decide +kernel
theorem dX6_count_56 : decode cX6_count 56 = .ok (.if_icmp .ge 25, 3) := by decide +kernel
end
section
theorem dX6_count_59 : decode cX6_count 59 = .ok (.iload_n 2, 1) := by decide +kernel
theorem dX6_count_60 : decode cX6_count 60 = .ok (.aload_n 0, 1) := by decide +kernel
theorem dX6_count_61 : decode cX6_count 61 = .ok (.iload_n 3, 1) := by decide +kernel
theorem dX6_count_62 : decode cX6_count 62 = .ok (.invokevirtual 113, 3) := by decide +kernel
theorem dX6_count_65 : decode cX6_count 65 = .ok (.ifCond .eq 7, 3) := by decide +kernel
theorem dX6_count_68 : decode cX6_count 68 = .ok (.iconst 1, 1) := by decide +kernel
theorem dX6_count_69 : decode cX6_count 69 = .ok (.goto 4, 3) := by decide +kernel
theorem dX6_count_72 : decode cX6_count 72 = .ok (.iconst 0, 1) := by decide +kernel
theorem dX6_count_73 : decode cX6_count 73 = .ok (.iadd, 1) := by decide +kernel
theorem dX6_count_74 : decode cX6_count 74 = .ok (.istore_n 2, 1) := by decide +kernel
theorem dX6_count_75 : decode cX6_count 75 = .ok (.iinc 3 1, 3) := by decide +kernel
theorem dX6_count_78 : decode cX6_count 78 = .ok (.goto (-30), 3) := by decide +kernel
theorem dX6_count_81 : decode cX6_count 81 = .ok (.iload_n 2, 1) := by decide +kernel
theorem dX6_count_82 : decode cX6_count 82 = .ok (.ireturn, 1) := by decide +kernel
theorem dX6_count_83 : decode cX6_count 83 = .ok (.iconst 0, 1) := by decide +kernel
theorem dX6_count_84 : decode cX6_count 84 = .ok (.istore_n 3, 1) := by decide +kernel
theorem dX6_count_85 : decode cX6_count 85 = .ok (.iload_n 3, 1) := by decide +kernel
theorem dX6_count_86 : decode cX6_count 86 = .ok (.aload_n 0, 1) := by decide +kernel
theorem dX6_count_87 : decode cX6_count 87 = .ok (.getfield 49, 3) := by decide +kernel
theorem dX6_count_90 : decode cX6_count 90 = .ok (.invokestatic 56, 3) := by decide +kernel
theorem dX6_count_93 : decode cX6_count 93 = .ok (.if_icmp .ge 25, 3) := by decide +kernel
theorem dX6_count_96 : decode cX6_count 96 = .ok (.iload_n 2, 1) := by decide +kernel
theorem dX6_count_97 : decode cX6_count 97 = .ok (.aload_n 0, 1) := by decide +kernel
theorem dX6_count_98 : decode cX6_count 98 = .ok (.iload_n 3, 1) := by decide +kernel
theorem dX6_count_99 : decode cX6_count 99 = .ok (.invokevirtual 100, 3) := by decide +kernel
theorem dX6_count_102 : decode cX6_count 102 = .ok (.ifCond .eq 7, 3) := by decide +kernel
theorem dX6_count_105 : decode cX6_count 105 = .ok (.iconst 1, 1) := by decide +kernel
theorem dX6_count_106 : decode cX6_count 106 = .ok (.goto 4, 3) := by decide +kernel
theorem dX6_count_109 : decode cX6_count 109 = .ok (.iconst 0, 1) := by decide +kernel
theorem dX6_count_110 : decode cX6_count 110 = .ok (.iadd, 1) := by decide +kernel
theorem dX6_count_111 : decode cX6_count 111 = .ok (.istore_n 2, 1) := by decide +kernel
theorem dX6_count_112 : decode cX6_count 112 = .ok (.iinc 3 1, 3) := by decide +kernel
theorem dX6_count_115 : decode cX6_count 115 = .ok (.goto (-30), 3) := by decide +kernel
theorem dX6_count_118 : decode cX6_count 118 = .ok (.iload_n 2, 1) := by decide +kernel
theorem dX6_count_119 : decode cX6_count 119 = .ok (.ireturn, 1) := by decide +kernel
theorem dX6_count_120 : decode cX6_count 120 = .ok (.aload_n 0, 1) := by decide +kernel
theorem dX6_count_121 : decode cX6_count 121 = .ok (.iconst 1, 1) := by decide +kernel
theorem dX6_count_122 : decode cX6_count 122 = .ok (.aload_n 0, 1) := by decide +kernel
theorem dX6_count_123 : decode cX6_count 123 = .ok (.getfield 49, 3) := by decide +kernel
theorem dX6_count_126 : decode cX6_count 126 = .ok (.ishl, 1) := by decide +kernel
theorem dX6_count_127 : decode cX6_count 127 = .ok (.iconst 1, 1) := by decide +kernel
theorem dX6_count_128 : decode cX6_count 128 = .ok (.isub, 1) := by decide +kernel
theorem dX6_count_129 : decode cX6_count 129 = .ok (.iconst 3, 1) := by decide +kernel
theorem dX6_count_130 : decode cX6_count 130 = .ok (.invokevirtual 97, 3) := by decide +kernel
theorem dX6_count_133 : decode cX6_count 133 = .ok (.ireturn, 1) := by decide +kernel
theorem dX6_count_134 : decode cX6_count 134 = .ok (.iconst (-1), 1) := by decide +kernel
theorem dX6_count_135 : decode cX6_count 135 = .ok (.ireturn, 1) := by decide +kernel
theorem dJ6_bitCount_0f7a4_0 : decode cJ6_bitCount_0f7a4 0 = .ok (.iload_n 0, 1) := by decide +kernel
theorem dJ6_bitCount_0f7a4_1 : decode cJ6_bitCount_0f7a4 1 = .ok (.iload_n 0, 1) := by decide +kernel
theorem dJ6_bitCount_0f7a4_2 : decode cJ6_bitCount_0f7a4 2 = .ok (.iconst 1, 1) := by decide +kernel
theorem dJ6_bitCount_0f7a4_3 : decode cJ6_bitCount_0f7a4 3 = .ok (.iushr, 1) := by decide +kernel
theorem dJ6_bitCount_0f7a4_4 : decode cJ6_bitCount_0f7a4 4 = .ok (.ldc_w 265, 3) := by decide +kernel
theorem dJ6_bitCount_0f7a4_7 : decode cJ6_bitCount_0f7a4 7 = .ok (.iand, 1) := by decide +kernel
theorem dJ6_bitCount_0f7a4_8 : decode cJ6_bitCount_0f7a4 8 = .ok (.isub, 1) := by decide +kernel
theorem dJ6_bitCount_0f7a4_9 : decode cJ6_bitCount_0f7a4 9 = .ok (.istore_n 0, 1) := by decide +kernel
theorem dJ6_bitCount_0f7a4_10 : decode cJ6_bitCount_0f7a4 10 = .ok (.iload_n 0, 1) := by decide +kernel
theorem dJ6_bitCount_0f7a4_11 : decode cJ6_bitCount_0f7a4 11 = .ok (.ldc_w 266, 3) := by decide +kernel
theorem dJ6_bitCount_0f7a4_14 : decode cJ6_bitCount_0f7a4 14 = .ok (.iand, 1) := by decide +kernel
theorem dJ6_bitCount_0f7a4_15 : decode cJ6_bitCount_0f7a4 15 = .ok (.iload_n 0, 1) := by decide +kernel
theorem dJ6_bitCount_0f7a4_16 : decode cJ6_bitCount_0f7a4 16 = .ok (.iconst 2, 1) := by decide +kernel
theorem dJ6_bitCount_0f7a4_17 : decode cJ6_bitCount_0f7a4 17 = .ok (.iushr, 1) := by decide +kernel
theorem dJ6_bitCount_0f7a4_18 : decode cJ6_bitCount_0f7a4 18 = .ok (.ldc_w 266, 3) := by decide +kernel
theorem dJ6_bitCount_0f7a4_21 : decode cJ6_bitCount_0f7a4 21 = .ok (.iand, 1) := by decide +kernel
theorem dJ6_bitCount_0f7a4_22 : decode cJ6_bitCount_0f7a4 22 = .ok (.iadd, 1) := by decide +kernel
theorem dJ6_bitCount_0f7a4_23 : decode cJ6_bitCount_0f7a4 23 = .ok (.istore_n 0, 1) := by decide +kernel
theorem dJ6_bitCount_0f7a4_24 : decode cJ6_bitCount_0f7a4 24 = .ok (.iload_n 0, 1) := by decide +kernel
theorem dJ6_bitCount_0f7a4_25 : decode cJ6_bitCount_0f7a4 25 = .ok (.iload_n 0, 1) := by decide +kernel
theorem dJ6_bitCount_0f7a4_26 : decode cJ6_bitCount_0f7a4 26 = .ok (.iconst 4, 1) := by decide +kernel
theorem dJ6_bitCount_0f7a4_27 : decode cJ6_bitCount_0f7a4 27 = .ok (.iushr, 1) := by decide +kernel
theorem dJ6_bitCount_0f7a4_28 : decode cJ6_bitCount_0f7a4 28 = .ok (.iadd, 1) := by decide +kernel
theorem dJ6_bitCount_0f7a4_29 : decode cJ6_bitCount_0f7a4 29 = .ok (.ldc_w 267, 3) := by decide +kernel
theorem dJ6_bitCount_0f7a4_32 : decode cJ6_bitCount_0f7a4 32 = .ok (.iand, 1) := by decide +kernel
theorem dJ6_bitCount_0f7a4_33 : decode cJ6_bitCount_0f7a4 33 = .ok (.istore_n 0, 1) := by decide +kernel
theorem dJ6_bitCount_0f7a4_34 : decode cJ6_bitCount_0f7a4 34 = .ok (.iload_n 0, 1) := by decide +kernel
theorem dJ6_bitCount_0f7a4_35 : decode cJ6_bitCount_0f7a4 35 = .ok (.iload_n 0, 1) := by decide +kernel
theorem dJ6_bitCount_0f7a4_36 : decode cJ6_bitCount_0f7a4 36 = .ok (.bipush 8, 2) := by decide +kernel
theorem dJ6_bitCount_0f7a4_38 : decode cJ6_bitCount_0f7a4 38 = .ok (.iushr, 1) := by decide +kernel
theorem dJ6_bitCount_0f7a4_39 : decode cJ6_bitCount_0f7a4 39 = .ok (.iadd, 1) := by decide +kernel
theorem dJ6_bitCount_0f7a4_40 : decode cJ6_bitCount_0f7a4 40 = .ok (.istore_n 0, 1) := by decide +kernel
theorem dJ6_bitCount_0f7a4_41 : decode cJ6_bitCount_0f7a4 41 = .ok (.iload_n 0, 1) := by decide +kernel
theorem dJ6_bitCount_0f7a4_42 : decode cJ6_bitCount_0f7a4 42 = .ok (.iload_n 0, 1) := by decide +kernel
theorem dJ6_bitCount_0f7a4_43 : decode cJ6_bitCount_0f7a4 43 = .ok (.bipush 16, 2) := by decide +kernel
theorem dJ6_bitCount_0f7a4_45 : decode cJ6_bitCount_0f7a4 45 = .ok (.iushr, 1) := by decide +kernel
theorem dJ6_bitCount_0f7a4_46 : decode cJ6_bitCount_0f7a4 46 = .ok (.iadd, 1) := by decide +kernel
theorem dJ6_bitCount_0f7a4_47 : decode cJ6_bitCount_0f7a4 47 = .ok (.istore_n 0, 1) := by decide +kernel
theorem dJ6_bitCount_0f7a4_48 : decode cJ6_bitCount_0f7a4 48 = .ok (.iload_n 0, 1) := by decide +kernel
theorem dJ6_bitCount_0f7a4_49 : decode cJ6_bitCount_0f7a4 49 = .ok (.bipush 63, 2) := by decide +kernel
theorem dJ6_bitCount_0f7a4_51 : decode cJ6_bitCount_0f7a4 51 = .ok (.iand, 1) := by decide +kernel
theorem dJ6_bitCount_0f7a4_52 : decode cJ6_bitCount_0f7a4 52 = .ok (.ireturn, 1) := by decide +kernel
theorem dJ9_floorMod_7cf53_0 : decode cJ9_floorMod_7cf53 0 = .ok (.iload_n 0, 1) := by decide +kernel
theorem dJ9_floorMod_7cf53_1 : decode cJ9_floorMod_7cf53 1 = .ok (.iload_n 1, 1) := by decide +kernel
theorem dJ9_floorMod_7cf53_2 : decode cJ9_floorMod_7cf53 2 = .ok (.irem, 1) := by decide +kernel
theorem dJ9_floorMod_7cf53_3 : decode cJ9_floorMod_7cf53 3 = .ok (.istore_n 2, 1) := by decide +kernel
theorem dJ9_floorMod_7cf53_4 : decode cJ9_floorMod_7cf53 4 = .ok (.iload_n 0, 1) := by decide +kernel
theorem dJ9_floorMod_7cf53_5 : decode cJ9_floorMod_7cf53 5 = .ok (.iload_n 1, 1) := by decide +kernel
theorem dJ9_floorMod_7cf53_6 : decode cJ9_floorMod_7cf53 6 = .ok (.ixor, 1) := by decide +kernel
theorem dJ9_floorMod_7cf53_7 : decode cJ9_floorMod_7cf53 7 = .ok (.ifCond .ge 11, 3) := by decide +kernel
theorem dJ9_floorMod_7cf53_10 : decode cJ9_floorMod_7cf53 10 = .ok (.iload_n 2, 1) := by decide +kernel
theorem dJ9_floorMod_7cf53_11 : decode cJ9_floorMod_7cf53 11 = .ok (.ifCond .eq 7, 3) := by decide +kernel
theorem dJ9_floorMod_7cf53_14 : decode cJ9_floorMod_7cf53 14 = .ok (.iload_n 2, 1) := by decide +kernel
theorem dJ9_floorMod_7cf53_15 : decode cJ9_floorMod_7cf53 15 = .ok (.iload_n 1, 1) := by decide +kernel
theorem dJ9_floorMod_7cf53_16 : decode cJ9_floorMod_7cf53 16 = .ok (.iadd, 1) := by decide +kernel
theorem dJ9_floorMod_7cf53_17 : decode cJ9_floorMod_7cf53 17 = .ok (.ireturn, 1) := by decide +kernel
theorem dJ9_floorMod_7cf53_18 : decode cJ9_floorMod_7cf53 18 = .ok (.iload_n 2, 1) := by decide +kernel
theorem dJ9_floorMod_7cf53_19 : decode cJ9_floorMod_7cf53 19 = .ok (.ireturn, 1) := by decide +kernel
theorem dJ9_abs_0f7a4_0 : decode cJ9_abs_0f7a4 0 = .ok (.iload_n 0, 1) := by decide +kernel
theorem dJ9_abs_0f7a4_1 : decode cJ9_abs_0f7a4 1 = .ok (.ifCond .ge 8, 3) := by decide +kernel
theorem dJ9_abs_0f7a4_4 : decode cJ9_abs_0f7a4 4 = .ok (.iload_n 0, 1) := by decide +kernel
theorem dJ9_abs_0f7a4_5 : decode cJ9_abs_0f7a4 5 = .ok (.ineg, 1) := by decide +kernel
theorem dJ9_abs_0f7a4_6 : decode cJ9_abs_0f7a4 6 = .ok (.goto 4, 3) := by decide +kernel
theorem dJ9_abs_0f7a4_9 : decode cJ9_abs_0f7a4 9 = .ok (.iload_n 0, 1) := by decide +kernel
theorem dJ9_abs_0f7a4_10 : decode cJ9_abs_0f7a4 10 = .ok (.ireturn, 1) := by decide +kernel
theorem dJ9_max_7cf53_0 : decode cJ9_max_7cf53 0 = .ok (.iload_n 0, 1) := by decide +kernel
theorem dJ9_max_7cf53_1 : decode cJ9_max_7cf53 1 = .ok (.iload_n 1, 1) := by decide +kernel
theorem dJ9_max_7cf53_2 : decode cJ9_max_7cf53 2 = .ok (.if_icmp .lt 7, 3) := by decide +kernel
theorem dJ9_max_7cf53_5 : decode cJ9_max_7cf53 5 = .ok (.iload_n 0, 1) := by decide +kernel
theorem dJ9_max_7cf53_6 : decode cJ9_max_7cf53 6 = .ok (.goto 4, 3) := by decide +kernel
theorem dJ9_max_7cf53_9 : decode cJ9_max_7cf53 9 = .ok (.iload_n 1, 1) := by decide +kernel
theorem dJ9_max_7cf53_10 : decode cJ9_max_7cf53 10 = .ok (.ireturn, 1) := by decide +kernel
theorem dJ9_min_7cf53_0 : decode cJ9_min_7cf53 0 = .ok (.iload_n 0, 1) := by decide +kernel
theorem dJ9_min_7cf53_1 : decode cJ9_min_7cf53 1 = .ok (.iload_n 1, 1) := by decide +kernel
theorem dJ9_min_7cf53_2 : decode cJ9_min_7cf53 2 = .ok (.if_icmp .gt 7, 3) := by decide +kernel
theorem dJ9_min_7cf53_5 : decode cJ9_min_7cf53 5 = .ok (.iload_n 0, 1) := by decide +kernel
theorem dJ9_min_7cf53_6 : decode cJ9_min_7cf53 6 = .ok (.goto 4, 3) := by decide +kernel
theorem dJ9_min_7cf53_9 : decode cJ9_min_7cf53 9 = .ok (.iload_n 1, 1) := by decide +kernel
theorem dJ9_min_7cf53_10 : decode cJ9_min_7cf53 10 = .ok (.ireturn, 1) := by decide +kernel
theorem dJ7_fill_53178_0 : decode cJ7_fill_53178 0 = .ok (.iconst 0, 1) := by decide +kernel
theorem dJ7_fill_53178_1 : decode cJ7_fill_53178 1 = .ok (.istore_n 2, 1) := by decide +kernel
theorem dJ7_fill_53178_2 : decode cJ7_fill_53178 2 = .ok (.aload_n 0, 1) := by decide +kernel
theorem dJ7_fill_53178_3 : decode cJ7_fill_53178 3 = .ok (.arraylength, 1) := by decide +kernel
theorem dJ7_fill_53178_4 : decode cJ7_fill_53178 4 = .ok (.istore_n 3, 1) := by decide +kernel
theorem dJ7_fill_53178_5 : decode cJ7_fill_53178 5 = .ok (.iload_n 2, 1) := by decide +kernel
theorem dJ7_fill_53178_6 : decode cJ7_fill_53178 6 = .ok (.iload_n 3, 1) := by decide +kernel
theorem dJ7_fill_53178_7 : decode cJ7_fill_53178 7 = .ok (.if_icmp .ge 13, 3) := by decide +kernel
theorem dJ7_fill_53178_10 : decode cJ7_fill_53178 10 = .ok (.aload_n 0, 1) := by decide +kernel
theorem dJ7_fill_53178_11 : decode cJ7_fill_53178 11 = .ok (.iload_n 2, 1) := by decide +kernel
theorem dJ7_fill_53178_12 : decode cJ7_fill_53178 12 = .ok (.iload_n 1, 1) := by decide +kernel
theorem dJ7_fill_53178_13 : decode cJ7_fill_53178 13 = .ok (.iastore, 1) := by decide +kernel
theorem dJ7_fill_53178_14 : decode cJ7_fill_53178 14 = .ok (.iinc 2 1, 3) := by decide +kernel
theorem dJ7_fill_53178_17 : decode cJ7_fill_53178 17 = .ok (.goto (-12), 3) := by decide +kernel
theorem dJ7_fill_53178_20 : decode cJ7_fill_53178 20 = .ok (.return_, 1) := by decide +kernel
theorem dL_cell_0 : decode cL_cell 0 = .ok (.iload_n 1, 1) := by decide +kernel
theorem dL_cell_1 : decode cL_cell 1 = .ok (.aload_n 0, 1) := by decide +kernel
theorem dL_cell_2 : decode cL_cell 2 = .ok (.arraylength, 1) := by decide +kernel
theorem dL_cell_3 : decode cL_cell 3 = .ok (.if_icmp .ge 9, 3) := by decide +kernel
theorem dL_cell_6 : decode cL_cell 6 = .ok (.aload_n 0, 1) := by decide +kernel
theorem dL_cell_7 : decode cL_cell 7 = .ok (.iload_n 1, 1) := by decide +kernel
theorem dL_cell_8 : decode cL_cell 8 = .ok (.iaload, 1) := by decide +kernel
theorem dL_cell_9 : decode cL_cell 9 = .ok (.goto 4, 3) := by decide +kernel
theorem dL_cell_12 : decode cL_cell 12 = .ok (.iconst 0, 1) := by decide +kernel
theorem dL_cell_13 : decode cL_cell 13 = .ok (.ireturn, 1) := by decide +kernel
theorem dL_law_0 : decode cL_law 0 = .ok (.new 7, 3) := by decide +kernel
theorem dL_law_3 : decode cL_law 3 = .ok (.dup, 1) := by decide +kernel
theorem dL_law_4 : decode cL_law 4 = .ok (.aload_n 0, 1) := by decide +kernel
theorem dL_law_5 : decode cL_law 5 = .ok (.iconst 0, 1) := by decide +kernel
theorem dL_law_6 : decode cL_law 6 = .ok (.invokestatic 9, 3) := by decide +kernel
theorem dL_law_9 : decode cL_law 9 = .ok (.invokespecial 15, 3) := by decide +kernel
theorem dL_law_12 : decode cL_law 12 = .ok (.astore_n 1, 1) := by decide +kernel
theorem dL_law_13 : decode cL_law 13 = .ok (.new 18, 3) := by decide +kernel
theorem dL_law_16 : decode cL_law 16 = .ok (.dup, 1) := by decide +kernel
theorem dL_law_17 : decode cL_law 17 = .ok (.aload_n 0, 1) := by decide +kernel
theorem dL_law_18 : decode cL_law 18 = .ok (.iconst 0, 1) := by decide +kernel
theorem dL_law_19 : decode cL_law 19 = .ok (.invokestatic 9, 3) := by decide +kernel
theorem dL_law_22 : decode cL_law 22 = .ok (.invokespecial 20, 3) := by decide +kernel
theorem dL_law_25 : decode cL_law 25 = .ok (.astore_n 2, 1) := by decide +kernel
theorem dL_law_26 : decode cL_law 26 = .ok (.iconst 1, 1) := by decide +kernel
theorem dL_law_27 : decode cL_law 27 = .ok (.istore_n 3, 1) := by decide +kernel
theorem dL_law_28 : decode cL_law 28 = .ok (.iload_n 3, 1) := by decide +kernel
theorem dL_law_29 : decode cL_law 29 = .ok (.aload_n 0, 1) := by decide +kernel
theorem dL_law_30 : decode cL_law 30 = .ok (.arraylength, 1) := by decide +kernel
theorem dL_law_31 : decode cL_law 31 = .ok (.iconst 5, 1) := by decide +kernel
theorem dL_law_32 : decode cL_law 32 = .ok (.isub, 1) := by decide +kernel
theorem dL_law_33 : decode cL_law 33 = .ok (.if_icmp .gt 642, 3) := by decide +kernel
theorem dL_law_36 : decode cL_law 36 = .ok (.aload_n 0, 1) := by decide +kernel
theorem dL_law_37 : decode cL_law 37 = .ok (.iload_n 3, 1) := by decide +kernel
theorem dL_law_38 : decode cL_law 38 = .ok (.iaload, 1) := by decide +kernel
theorem dL_law_39 : decode cL_law 39 = .ok (.bipush 31, 2) := by decide +kernel
theorem dL_law_41 : decode cL_law 41 = .ok (.iand, 1) := by decide +kernel
theorem dL_law_42 : decode cL_law 42 = .ok (.tableswitch 627 0 18 #[90, 143, 166, 199, 242, 265, 298, 321, 344, 357, 380, 413, 446, 469, 502, 535, 568, 581, 604], 90) := by decide +kernel
theorem dL_law_132 : decode cL_law 132 = .ok (.aload_n 1, 1) := by decide +kernel
theorem dL_law_133 : decode cL_law 133 = .ok (.aload_n 0, 1) := by decide +kernel
theorem dL_law_134 : decode cL_law 134 = .ok (.iload_n 3, 1) := by decide +kernel
theorem dL_law_135 : decode cL_law 135 = .ok (.iconst 1, 1) := by decide +kernel
theorem dL_law_136 : decode cL_law 136 = .ok (.iadd, 1) := by decide +kernel
theorem dL_law_137 : decode cL_law 137 = .ok (.iaload, 1) := by decide +kernel
theorem dL_law_138 : decode cL_law 138 = .ok (.aload_n 0, 1) := by decide +kernel
theorem dL_law_139 : decode cL_law 139 = .ok (.iload_n 3, 1) := by decide +kernel
theorem dL_law_140 : decode cL_law 140 = .ok (.iconst 2, 1) := by decide +kernel
theorem dL_law_141 : decode cL_law 141 = .ok (.iadd, 1) := by decide +kernel
theorem dL_law_142 : decode cL_law 142 = .ok (.iaload, 1) := by decide +kernel
theorem dL_law_143 : decode cL_law 143 = .ok (.aload_n 0, 1) := by decide +kernel
theorem dL_law_144 : decode cL_law 144 = .ok (.iload_n 3, 1) := by decide +kernel
theorem dL_law_145 : decode cL_law 145 = .ok (.iconst 3, 1) := by decide +kernel
theorem dL_law_146 : decode cL_law 146 = .ok (.iadd, 1) := by decide +kernel
theorem dL_law_147 : decode cL_law 147 = .ok (.iaload, 1) := by decide +kernel
theorem dL_law_148 : decode cL_law 148 = .ok (.aload_n 0, 1) := by decide +kernel
theorem dL_law_149 : decode cL_law 149 = .ok (.iload_n 3, 1) := by decide +kernel
theorem dL_law_150 : decode cL_law 150 = .ok (.iconst 4, 1) := by decide +kernel
theorem dL_law_151 : decode cL_law 151 = .ok (.iadd, 1) := by decide +kernel
theorem dL_law_152 : decode cL_law 152 = .ok (.iaload, 1) := by decide +kernel
theorem dL_law_153 : decode cL_law 153 = .ok (.invokevirtual 21, 3) := by decide +kernel
theorem dL_law_156 : decode cL_law 156 = .ok (.aload_n 2, 1) := by decide +kernel
theorem dL_law_157 : decode cL_law 157 = .ok (.aload_n 0, 1) := by decide +kernel
theorem dL_law_158 : decode cL_law 158 = .ok (.iload_n 3, 1) := by decide +kernel
theorem dL_law_159 : decode cL_law 159 = .ok (.iconst 1, 1) := by decide +kernel
theorem dL_law_160 : decode cL_law 160 = .ok (.iadd, 1) := by decide +kernel
theorem dL_law_161 : decode cL_law 161 = .ok (.iaload, 1) := by decide +kernel
theorem dL_law_162 : decode cL_law 162 = .ok (.aload_n 0, 1) := by decide +kernel
theorem dL_law_163 : decode cL_law 163 = .ok (.iload_n 3, 1) := by decide +kernel
theorem dL_law_164 : decode cL_law 164 = .ok (.iconst 2, 1) := by decide +kernel
theorem dL_law_165 : decode cL_law 165 = .ok (.iadd, 1) := by decide +kernel
theorem dL_law_166 : decode cL_law 166 = .ok (.iaload, 1) := by decide +kernel
theorem dL_law_167 : decode cL_law 167 = .ok (.aload_n 0, 1) := by decide +kernel
theorem dL_law_168 : decode cL_law 168 = .ok (.iload_n 3, 1) := by decide +kernel
theorem dL_law_169 : decode cL_law 169 = .ok (.iconst 3, 1) := by decide +kernel
theorem dL_law_170 : decode cL_law 170 = .ok (.iadd, 1) := by decide +kernel
theorem dL_law_171 : decode cL_law 171 = .ok (.iaload, 1) := by decide +kernel
theorem dL_law_172 : decode cL_law 172 = .ok (.aload_n 0, 1) := by decide +kernel
theorem dL_law_173 : decode cL_law 173 = .ok (.iload_n 3, 1) := by decide +kernel
theorem dL_law_174 : decode cL_law 174 = .ok (.iconst 4, 1) := by decide +kernel
theorem dL_law_175 : decode cL_law 175 = .ok (.iadd, 1) := by decide +kernel
theorem dL_law_176 : decode cL_law 176 = .ok (.iaload, 1) := by decide +kernel
theorem dL_law_177 : decode cL_law 177 = .ok (.invokevirtual 25, 3) := by decide +kernel
theorem dL_law_180 : decode cL_law 180 = .ok (.if_icmp .eq 489, 3) := by decide +kernel
theorem dL_law_183 : decode cL_law 183 = .ok (.iconst 0, 1) := by decide +kernel
theorem dL_law_184 : decode cL_law 184 = .ok (.ireturn, 1) := by decide +kernel
theorem dL_law_185 : decode cL_law 185 = .ok (.aload_n 1, 1) := by decide +kernel
theorem dL_law_186 : decode cL_law 186 = .ok (.aload_n 0, 1) := by decide +kernel
theorem dL_law_187 : decode cL_law 187 = .ok (.iload_n 3, 1) := by decide +kernel
theorem dL_law_188 : decode cL_law 188 = .ok (.iconst 1, 1) := by decide +kernel
theorem dL_law_189 : decode cL_law 189 = .ok (.iadd, 1) := by decide +kernel
theorem dL_law_190 : decode cL_law 190 = .ok (.iaload, 1) := by decide +kernel
theorem dL_law_191 : decode cL_law 191 = .ok (.invokevirtual 26, 3) := by decide +kernel
theorem dL_law_194 : decode cL_law 194 = .ok (.aload_n 2, 1) := by decide +kernel
theorem dL_law_195 : decode cL_law 195 = .ok (.aload_n 0, 1) := by decide +kernel
theorem dL_law_196 : decode cL_law 196 = .ok (.iload_n 3, 1) := by decide +kernel
theorem dL_law_197 : decode cL_law 197 = .ok (.iconst 1, 1) := by decide +kernel
theorem dL_law_198 : decode cL_law 198 = .ok (.iadd, 1) := by decide +kernel
theorem dL_law_199 : decode cL_law 199 = .ok (.iaload, 1) := by decide +kernel
theorem dL_law_200 : decode cL_law 200 = .ok (.invokevirtual 30, 3) := by decide +kernel
theorem dL_law_203 : decode cL_law 203 = .ok (.if_icmp .eq 466, 3) := by decide +kernel
theorem dL_law_206 : decode cL_law 206 = .ok (.iconst 0, 1) := by decide +kernel
theorem dL_law_207 : decode cL_law 207 = .ok (.ireturn, 1) := by decide +kernel
theorem dL_law_208 : decode cL_law 208 = .ok (.aload_n 1, 1) := by decide +kernel
theorem dL_law_209 : decode cL_law 209 = .ok (.aload_n 0, 1) := by decide +kernel
theorem dL_law_210 : decode cL_law 210 = .ok (.iload_n 3, 1) := by decide +kernel
theorem dL_law_211 : decode cL_law 211 = .ok (.iconst 1, 1) := by decide +kernel
theorem dL_law_212 : decode cL_law 212 = .ok (.iadd, 1) := by decide +kernel
theorem dL_law_213 : decode cL_law 213 = .ok (.iaload, 1) := by decide +kernel
theorem dL_law_214 : decode cL_law 214 = .ok (.aload_n 0, 1) := by decide +kernel
theorem dL_law_215 : decode cL_law 215 = .ok (.iload_n 3, 1) := by decide +kernel
theorem dL_law_216 : decode cL_law 216 = .ok (.iconst 2, 1) := by decide +kernel
theorem dL_law_217 : decode cL_law 217 = .ok (.iadd, 1) := by decide +kernel
theorem dL_law_218 : decode cL_law 218 = .ok (.iaload, 1) := by decide +kernel
theorem dL_law_219 : decode cL_law 219 = .ok (.invokevirtual 31, 3) := by decide +kernel
theorem dL_law_222 : decode cL_law 222 = .ok (.aload_n 2, 1) := by decide +kernel
theorem dL_law_223 : decode cL_law 223 = .ok (.aload_n 0, 1) := by decide +kernel
theorem dL_law_224 : decode cL_law 224 = .ok (.iload_n 3, 1) := by decide +kernel
theorem dL_law_225 : decode cL_law 225 = .ok (.iconst 1, 1) := by decide +kernel
theorem dL_law_226 : decode cL_law 226 = .ok (.iadd, 1) := by decide +kernel
theorem dL_law_227 : decode cL_law 227 = .ok (.iaload, 1) := by decide +kernel
theorem dL_law_228 : decode cL_law 228 = .ok (.aload_n 0, 1) := by decide +kernel
theorem dL_law_229 : decode cL_law 229 = .ok (.iload_n 3, 1) := by decide +kernel
theorem dL_law_230 : decode cL_law 230 = .ok (.iconst 2, 1) := by decide +kernel
theorem dL_law_231 : decode cL_law 231 = .ok (.iadd, 1) := by decide +kernel
theorem dL_law_232 : decode cL_law 232 = .ok (.iaload, 1) := by decide +kernel
theorem dL_law_233 : decode cL_law 233 = .ok (.invokevirtual 35, 3) := by decide +kernel
theorem dL_law_236 : decode cL_law 236 = .ok (.if_icmp .eq 433, 3) := by decide +kernel
theorem dL_law_239 : decode cL_law 239 = .ok (.iconst 0, 1) := by decide +kernel
theorem dL_law_240 : decode cL_law 240 = .ok (.ireturn, 1) := by decide +kernel
theorem dL_law_241 : decode cL_law 241 = .ok (.aload_n 1, 1) := by decide +kernel
theorem dL_law_242 : decode cL_law 242 = .ok (.aload_n 0, 1) := by decide +kernel
theorem dL_law_243 : decode cL_law 243 = .ok (.iload_n 3, 1) := by decide +kernel
theorem dL_law_244 : decode cL_law 244 = .ok (.iconst 1, 1) := by decide +kernel
theorem dL_law_245 : decode cL_law 245 = .ok (.iadd, 1) := by decide +kernel
theorem dL_law_246 : decode cL_law 246 = .ok (.iaload, 1) := by decide +kernel
theorem dL_law_247 : decode cL_law 247 = .ok (.aload_n 0, 1) := by decide +kernel
theorem dL_law_248 : decode cL_law 248 = .ok (.iload_n 3, 1) := by decide +kernel
theorem dL_law_249 : decode cL_law 249 = .ok (.iconst 2, 1) := by decide +kernel
theorem dL_law_250 : decode cL_law 250 = .ok (.iadd, 1) := by decide +kernel
theorem dL_law_251 : decode cL_law 251 = .ok (.iaload, 1) := by decide +kernel
theorem dL_law_252 : decode cL_law 252 = .ok (.aload_n 0, 1) := by decide +kernel
theorem dL_law_253 : decode cL_law 253 = .ok (.iload_n 3, 1) := by decide +kernel
theorem dL_law_254 : decode cL_law 254 = .ok (.iconst 3, 1) := by decide +kernel
theorem dL_law_255 : decode cL_law 255 = .ok (.iadd, 1) := by decide +kernel
theorem dL_law_256 : decode cL_law 256 = .ok (.iaload, 1) := by decide +kernel
theorem dL_law_257 : decode cL_law 257 = .ok (.invokevirtual 36, 3) := by decide +kernel
theorem dL_law_260 : decode cL_law 260 = .ok (.aload_n 2, 1) := by decide +kernel
theorem dL_law_261 : decode cL_law 261 = .ok (.aload_n 0, 1) := by decide +kernel
theorem dL_law_262 : decode cL_law 262 = .ok (.iload_n 3, 1) := by decide +kernel
theorem dL_law_263 : decode cL_law 263 = .ok (.iconst 1, 1) := by decide +kernel
theorem dL_law_264 : decode cL_law 264 = .ok (.iadd, 1) := by decide +kernel
theorem dL_law_265 : decode cL_law 265 = .ok (.iaload, 1) := by decide +kernel
theorem dL_law_266 : decode cL_law 266 = .ok (.aload_n 0, 1) := by decide +kernel
theorem dL_law_267 : decode cL_law 267 = .ok (.iload_n 3, 1) := by decide +kernel
theorem dL_law_268 : decode cL_law 268 = .ok (.iconst 2, 1) := by decide +kernel
theorem dL_law_269 : decode cL_law 269 = .ok (.iadd, 1) := by decide +kernel
theorem dL_law_270 : decode cL_law 270 = .ok (.iaload, 1) := by decide +kernel
theorem dL_law_271 : decode cL_law 271 = .ok (.aload_n 0, 1) := by decide +kernel
theorem dL_law_272 : decode cL_law 272 = .ok (.iload_n 3, 1) := by decide +kernel
theorem dL_law_273 : decode cL_law 273 = .ok (.iconst 3, 1) := by decide +kernel
theorem dL_law_274 : decode cL_law 274 = .ok (.iadd, 1) := by decide +kernel
theorem dL_law_275 : decode cL_law 275 = .ok (.iaload, 1) := by decide +kernel
theorem dL_law_276 : decode cL_law 276 = .ok (.invokevirtual 40, 3) := by decide +kernel
theorem dL_law_279 : decode cL_law 279 = .ok (.if_icmp .eq 390, 3) := by decide +kernel
theorem dL_law_282 : decode cL_law 282 = .ok (.iconst 0, 1) := by decide +kernel
theorem dL_law_283 : decode cL_law 283 = .ok (.ireturn, 1) := by decide +kernel
theorem dL_law_284 : decode cL_law 284 = .ok (.aload_n 1, 1) := by decide +kernel
theorem dL_law_285 : decode cL_law 285 = .ok (.aload_n 0, 1) := by decide +kernel
theorem dL_law_286 : decode cL_law 286 = .ok (.iload_n 3, 1) := by decide +kernel
theorem dL_law_287 : decode cL_law 287 = .ok (.iconst 1, 1) := by decide +kernel
theorem dL_law_288 : decode cL_law 288 = .ok (.iadd, 1) := by decide +kernel
theorem dL_law_289 : decode cL_law 289 = .ok (.iaload, 1) := by decide +kernel
theorem dL_law_290 : decode cL_law 290 = .ok (.invokevirtual 41, 3) := by decide +kernel
theorem dL_law_293 : decode cL_law 293 = .ok (.aload_n 2, 1) := by decide +kernel
theorem dL_law_294 : decode cL_law 294 = .ok (.aload_n 0, 1) := by decide +kernel
theorem dL_law_295 : decode cL_law 295 = .ok (.iload_n 3, 1) := by decide +kernel
theorem dL_law_296 : decode cL_law 296 = .ok (.iconst 1, 1) := by decide +kernel
theorem dL_law_297 : decode cL_law 297 = .ok (.iadd, 1) := by decide +kernel
theorem dL_law_298 : decode cL_law 298 = .ok (.iaload, 1) := by decide +kernel
theorem dL_law_299 : decode cL_law 299 = .ok (.invokevirtual 45, 3) := by decide +kernel
theorem dL_law_302 : decode cL_law 302 = .ok (.if_icmp .eq 367, 3) := by decide +kernel
theorem dL_law_305 : decode cL_law 305 = .ok (.iconst 0, 1) := by decide +kernel
theorem dL_law_306 : decode cL_law 306 = .ok (.ireturn, 1) := by decide +kernel
theorem dL_law_307 : decode cL_law 307 = .ok (.aload_n 1, 1) := by decide +kernel
theorem dL_law_308 : decode cL_law 308 = .ok (.aload_n 0, 1) := by decide +kernel
theorem dL_law_309 : decode cL_law 309 = .ok (.iload_n 3, 1) := by decide +kernel
theorem dL_law_310 : decode cL_law 310 = .ok (.iconst 1, 1) := by decide +kernel
theorem dL_law_311 : decode cL_law 311 = .ok (.iadd, 1) := by decide +kernel
theorem dL_law_312 : decode cL_law 312 = .ok (.iaload, 1) := by decide +kernel
theorem dL_law_313 : decode cL_law 313 = .ok (.aload_n 0, 1) := by decide +kernel
theorem dL_law_314 : decode cL_law 314 = .ok (.iload_n 3, 1) := by decide +kernel
theorem dL_law_315 : decode cL_law 315 = .ok (.iconst 2, 1) := by decide +kernel
theorem dL_law_316 : decode cL_law 316 = .ok (.iadd, 1) := by decide +kernel
theorem dL_law_317 : decode cL_law 317 = .ok (.iaload, 1) := by decide +kernel
theorem dL_law_318 : decode cL_law 318 = .ok (.invokevirtual 46, 3) := by decide +kernel
theorem dL_law_321 : decode cL_law 321 = .ok (.aload_n 2, 1) := by decide +kernel
theorem dL_law_322 : decode cL_law 322 = .ok (.aload_n 0, 1) := by decide +kernel
theorem dL_law_323 : decode cL_law 323 = .ok (.iload_n 3, 1) := by decide +kernel
theorem dL_law_324 : decode cL_law 324 = .ok (.iconst 1, 1) := by decide +kernel
theorem dL_law_325 : decode cL_law 325 = .ok (.iadd, 1) := by decide +kernel
theorem dL_law_326 : decode cL_law 326 = .ok (.iaload, 1) := by decide +kernel
theorem dL_law_327 : decode cL_law 327 = .ok (.aload_n 0, 1) := by decide +kernel
theorem dL_law_328 : decode cL_law 328 = .ok (.iload_n 3, 1) := by decide +kernel
theorem dL_law_329 : decode cL_law 329 = .ok (.iconst 2, 1) := by decide +kernel
theorem dL_law_330 : decode cL_law 330 = .ok (.iadd, 1) := by decide +kernel
theorem dL_law_331 : decode cL_law 331 = .ok (.iaload, 1) := by decide +kernel
theorem dL_law_332 : decode cL_law 332 = .ok (.invokevirtual 49, 3) := by decide +kernel
theorem dL_law_335 : decode cL_law 335 = .ok (.if_icmp .eq 334, 3) := by decide +kernel
theorem dL_law_338 : decode cL_law 338 = .ok (.iconst 0, 1) := by decide +kernel
theorem dL_law_339 : decode cL_law 339 = .ok (.ireturn, 1) := by decide +kernel
theorem dL_law_340 : decode cL_law 340 = .ok (.aload_n 1, 1) := by decide +kernel
theorem dL_law_341 : decode cL_law 341 = .ok (.aload_n 0, 1) := by decide +kernel
theorem dL_law_342 : decode cL_law 342 = .ok (.iload_n 3, 1) := by decide +kernel
theorem dL_law_343 : decode cL_law 343 = .ok (.iconst 1, 1) := by decide +kernel
theorem dL_law_344 : decode cL_law 344 = .ok (.iadd, 1) := by decide +kernel
theorem dL_law_345 : decode cL_law 345 = .ok (.iaload, 1) := by decide +kernel
theorem dL_law_346 : decode cL_law 346 = .ok (.invokevirtual 50, 3) := by decide +kernel
theorem dL_law_349 : decode cL_law 349 = .ok (.aload_n 2, 1) := by decide +kernel
theorem dL_law_350 : decode cL_law 350 = .ok (.aload_n 0, 1) := by decide +kernel
theorem dL_law_351 : decode cL_law 351 = .ok (.iload_n 3, 1) := by decide +kernel
theorem dL_law_352 : decode cL_law 352 = .ok (.iconst 1, 1) := by decide +kernel
theorem dL_law_353 : decode cL_law 353 = .ok (.iadd, 1) := by decide +kernel
theorem dL_law_354 : decode cL_law 354 = .ok (.iaload, 1) := by decide +kernel
theorem dL_law_355 : decode cL_law 355 = .ok (.invokevirtual 53, 3) := by decide +kernel
theorem dL_law_358 : decode cL_law 358 = .ok (.if_icmp .eq 311, 3) := by decide +kernel
theorem dL_law_361 : decode cL_law 361 = .ok (.iconst 0, 1) := by decide +kernel
theorem dL_law_362 : decode cL_law 362 = .ok (.ireturn, 1) := by decide +kernel
theorem dL_law_363 : decode cL_law 363 = .ok (.aload_n 1, 1) := by decide +kernel
theorem dL_law_364 : decode cL_law 364 = .ok (.aload_n 0, 1) := by decide +kernel
theorem dL_law_365 : decode cL_law 365 = .ok (.iload_n 3, 1) := by decide +kernel
theorem dL_law_366 : decode cL_law 366 = .ok (.iconst 1, 1) := by decide +kernel
theorem dL_law_367 : decode cL_law 367 = .ok (.iadd, 1) := by decide +kernel
theorem dL_law_368 : decode cL_law 368 = .ok (.iaload, 1) := by decide +kernel
theorem dL_law_369 : decode cL_law 369 = .ok (.invokevirtual 54, 3) := by decide +kernel
theorem dL_law_372 : decode cL_law 372 = .ok (.aload_n 2, 1) := by decide +kernel
theorem dL_law_373 : decode cL_law 373 = .ok (.aload_n 0, 1) := by decide +kernel
theorem dL_law_374 : decode cL_law 374 = .ok (.iload_n 3, 1) := by decide +kernel
theorem dL_law_375 : decode cL_law 375 = .ok (.iconst 1, 1) := by decide +kernel
theorem dL_law_376 : decode cL_law 376 = .ok (.iadd, 1) := by decide +kernel
theorem dL_law_377 : decode cL_law 377 = .ok (.iaload, 1) := by decide +kernel
theorem dL_law_378 : decode cL_law 378 = .ok (.invokevirtual 57, 3) := by decide +kernel
theorem dL_law_381 : decode cL_law 381 = .ok (.if_icmp .eq 288, 3) := by decide +kernel
theorem dL_law_384 : decode cL_law 384 = .ok (.iconst 0, 1) := by decide +kernel
theorem dL_law_385 : decode cL_law 385 = .ok (.ireturn, 1) := by decide +kernel
theorem dL_law_386 : decode cL_law 386 = .ok (.aload_n 1, 1) := by decide +kernel
theorem dL_law_387 : decode cL_law 387 = .ok (.invokevirtual 58, 3) := by decide +kernel
theorem dL_law_390 : decode cL_law 390 = .ok (.aload_n 2, 1) := by decide +kernel
theorem dL_law_391 : decode cL_law 391 = .ok (.invokevirtual 62, 3) := by decide +kernel
theorem dL_law_394 : decode cL_law 394 = .ok (.if_icmp .eq 275, 3) := by decide +kernel
theorem dL_law_397 : decode cL_law 397 = .ok (.iconst 0, 1) := by decide +kernel
theorem dL_law_398 : decode cL_law 398 = .ok (.ireturn, 1) := by decide +kernel
theorem dL_law_399 : decode cL_law 399 = .ok (.aload_n 1, 1) := by decide +kernel
theorem dL_law_400 : decode cL_law 400 = .ok (.aload_n 0, 1) := by decide +kernel
theorem dL_law_401 : decode cL_law 401 = .ok (.iload_n 3, 1) := by decide +kernel
theorem dL_law_402 : decode cL_law 402 = .ok (.iconst 1, 1) := by decide +kernel
theorem dL_law_403 : decode cL_law 403 = .ok (.iadd, 1) := by decide +kernel
theorem dL_law_404 : decode cL_law 404 = .ok (.iaload, 1) := by decide +kernel
theorem dL_law_405 : decode cL_law 405 = .ok (.invokevirtual 63, 3) := by decide +kernel
theorem dL_law_408 : decode cL_law 408 = .ok (.aload_n 2, 1) := by decide +kernel
theorem dL_law_409 : decode cL_law 409 = .ok (.aload_n 0, 1) := by decide +kernel
theorem dL_law_410 : decode cL_law 410 = .ok (.iload_n 3, 1) := by decide +kernel
theorem dL_law_411 : decode cL_law 411 = .ok (.iconst 1, 1) := by decide +kernel
theorem dL_law_412 : decode cL_law 412 = .ok (.iadd, 1) := by decide +kernel
theorem dL_law_413 : decode cL_law 413 = .ok (.iaload, 1) := by decide +kernel
theorem dL_law_414 : decode cL_law 414 = .ok (.invokevirtual 66, 3) := by decide +kernel
theorem dL_law_417 : decode cL_law 417 = .ok (.if_icmp .eq 252, 3) := by decide +kernel
theorem dL_law_420 : decode cL_law 420 = .ok (.iconst 0, 1) := by decide +kernel
theorem dL_law_421 : decode cL_law 421 = .ok (.ireturn, 1) := by decide +kernel
theorem dL_law_422 : decode cL_law 422 = .ok (.aload_n 1, 1) := by decide +kernel
theorem dL_law_423 : decode cL_law 423 = .ok (.aload_n 0, 1) := by decide +kernel
theorem dL_law_424 : decode cL_law 424 = .ok (.iload_n 3, 1) := by decide +kernel
theorem dL_law_425 : decode cL_law 425 = .ok (.iconst 1, 1) := by decide +kernel
theorem dL_law_426 : decode cL_law 426 = .ok (.iadd, 1) := by decide +kernel
theorem dL_law_427 : decode cL_law 427 = .ok (.iaload, 1) := by decide +kernel
theorem dL_law_428 : decode cL_law 428 = .ok (.aload_n 0, 1) := by decide +kernel
theorem dL_law_429 : decode cL_law 429 = .ok (.iload_n 3, 1) := by decide +kernel
theorem dL_law_430 : decode cL_law 430 = .ok (.iconst 2, 1) := by decide +kernel
theorem dL_law_431 : decode cL_law 431 = .ok (.iadd, 1) := by decide +kernel
theorem dL_law_432 : decode cL_law 432 = .ok (.iaload, 1) := by decide +kernel
theorem dL_law_433 : decode cL_law 433 = .ok (.invokevirtual 67, 3) := by decide +kernel
theorem dL_law_436 : decode cL_law 436 = .ok (.aload_n 2, 1) := by decide +kernel
theorem dL_law_437 : decode cL_law 437 = .ok (.aload_n 0, 1) := by decide +kernel
theorem dL_law_438 : decode cL_law 438 = .ok (.iload_n 3, 1) := by decide +kernel
theorem dL_law_439 : decode cL_law 439 = .ok (.iconst 1, 1) := by decide +kernel
theorem dL_law_440 : decode cL_law 440 = .ok (.iadd, 1) := by decide +kernel
theorem dL_law_441 : decode cL_law 441 = .ok (.iaload, 1) := by decide +kernel
theorem dL_law_442 : decode cL_law 442 = .ok (.aload_n 0, 1) := by decide +kernel
theorem dL_law_443 : decode cL_law 443 = .ok (.iload_n 3, 1) := by decide +kernel
theorem dL_law_444 : decode cL_law 444 = .ok (.iconst 2, 1) := by decide +kernel
theorem dL_law_445 : decode cL_law 445 = .ok (.iadd, 1) := by decide +kernel
theorem dL_law_446 : decode cL_law 446 = .ok (.iaload, 1) := by decide +kernel
theorem dL_law_447 : decode cL_law 447 = .ok (.invokevirtual 70, 3) := by decide +kernel
theorem dL_law_450 : decode cL_law 450 = .ok (.if_icmp .eq 219, 3) := by decide +kernel
theorem dL_law_453 : decode cL_law 453 = .ok (.iconst 0, 1) := by decide +kernel
theorem dL_law_454 : decode cL_law 454 = .ok (.ireturn, 1) := by decide +kernel
theorem dL_law_455 : decode cL_law 455 = .ok (.aload_n 1, 1) := by decide +kernel
theorem dL_law_456 : decode cL_law 456 = .ok (.aload_n 0, 1) := by decide +kernel
theorem dL_law_457 : decode cL_law 457 = .ok (.iload_n 3, 1) := by decide +kernel
theorem dL_law_458 : decode cL_law 458 = .ok (.iconst 1, 1) := by decide +kernel
theorem dL_law_459 : decode cL_law 459 = .ok (.iadd, 1) := by decide +kernel
theorem dL_law_460 : decode cL_law 460 = .ok (.iaload, 1) := by decide +kernel
theorem dL_law_461 : decode cL_law 461 = .ok (.aload_n 0, 1) := by decide +kernel
theorem dL_law_462 : decode cL_law 462 = .ok (.iload_n 3, 1) := by decide +kernel
theorem dL_law_463 : decode cL_law 463 = .ok (.iconst 2, 1) := by decide +kernel
theorem dL_law_464 : decode cL_law 464 = .ok (.iadd, 1) := by decide +kernel
theorem dL_law_465 : decode cL_law 465 = .ok (.iaload, 1) := by decide +kernel
theorem dL_law_466 : decode cL_law 466 = .ok (.invokevirtual 71, 3) := by decide +kernel
theorem dL_law_469 : decode cL_law 469 = .ok (.aload_n 2, 1) := by decide +kernel
theorem dL_law_470 : decode cL_law 470 = .ok (.aload_n 0, 1) := by decide +kernel
theorem dL_law_471 : decode cL_law 471 = .ok (.iload_n 3, 1) := by decide +kernel
theorem dL_law_472 : decode cL_law 472 = .ok (.iconst 1, 1) := by decide +kernel
theorem dL_law_473 : decode cL_law 473 = .ok (.iadd, 1) := by decide +kernel
theorem dL_law_474 : decode cL_law 474 = .ok (.iaload, 1) := by decide +kernel
theorem dL_law_475 : decode cL_law 475 = .ok (.aload_n 0, 1) := by decide +kernel
theorem dL_law_476 : decode cL_law 476 = .ok (.iload_n 3, 1) := by decide +kernel
theorem dL_law_477 : decode cL_law 477 = .ok (.iconst 2, 1) := by decide +kernel
theorem dL_law_478 : decode cL_law 478 = .ok (.iadd, 1) := by decide +kernel
theorem dL_law_479 : decode cL_law 479 = .ok (.iaload, 1) := by decide +kernel
theorem dL_law_480 : decode cL_law 480 = .ok (.invokevirtual 74, 3) := by decide +kernel
theorem dL_law_483 : decode cL_law 483 = .ok (.if_icmp .eq 186, 3) := by decide +kernel
theorem dL_law_486 : decode cL_law 486 = .ok (.iconst 0, 1) := by decide +kernel
theorem dL_law_487 : decode cL_law 487 = .ok (.ireturn, 1) := by decide +kernel
theorem dL_law_488 : decode cL_law 488 = .ok (.aload_n 1, 1) := by decide +kernel
theorem dL_law_489 : decode cL_law 489 = .ok (.aload_n 0, 1) := by decide +kernel
theorem dL_law_490 : decode cL_law 490 = .ok (.iload_n 3, 1) := by decide +kernel
theorem dL_law_491 : decode cL_law 491 = .ok (.iconst 1, 1) := by decide +kernel
theorem dL_law_492 : decode cL_law 492 = .ok (.iadd, 1) := by decide +kernel
theorem dL_law_493 : decode cL_law 493 = .ok (.iaload, 1) := by decide +kernel
theorem dL_law_494 : decode cL_law 494 = .ok (.invokevirtual 75, 3) := by decide +kernel
theorem dL_law_497 : decode cL_law 497 = .ok (.aload_n 2, 1) := by decide +kernel
theorem dL_law_498 : decode cL_law 498 = .ok (.aload_n 0, 1) := by decide +kernel
theorem dL_law_499 : decode cL_law 499 = .ok (.iload_n 3, 1) := by decide +kernel
theorem dL_law_500 : decode cL_law 500 = .ok (.iconst 1, 1) := by decide +kernel
theorem dL_law_501 : decode cL_law 501 = .ok (.iadd, 1) := by decide +kernel
theorem dL_law_502 : decode cL_law 502 = .ok (.iaload, 1) := by decide +kernel
theorem dL_law_503 : decode cL_law 503 = .ok (.invokevirtual 78, 3) := by decide +kernel
theorem dL_law_506 : decode cL_law 506 = .ok (.if_icmp .eq 163, 3) := by decide +kernel
theorem dL_law_509 : decode cL_law 509 = .ok (.iconst 0, 1) := by decide +kernel
theorem dL_law_510 : decode cL_law 510 = .ok (.ireturn, 1) := by decide +kernel
theorem dL_law_511 : decode cL_law 511 = .ok (.aload_n 1, 1) := by decide +kernel
theorem dL_law_512 : decode cL_law 512 = .ok (.aload_n 0, 1) := by decide +kernel
theorem dL_law_513 : decode cL_law 513 = .ok (.iload_n 3, 1) := by decide +kernel
theorem dL_law_514 : decode cL_law 514 = .ok (.iconst 1, 1) := by decide +kernel
theorem dL_law_515 : decode cL_law 515 = .ok (.iadd, 1) := by decide +kernel
theorem dL_law_516 : decode cL_law 516 = .ok (.iaload, 1) := by decide +kernel
theorem dL_law_517 : decode cL_law 517 = .ok (.aload_n 0, 1) := by decide +kernel
theorem dL_law_518 : decode cL_law 518 = .ok (.iload_n 3, 1) := by decide +kernel
theorem dL_law_519 : decode cL_law 519 = .ok (.iconst 2, 1) := by decide +kernel
theorem dL_law_520 : decode cL_law 520 = .ok (.iadd, 1) := by decide +kernel
theorem dL_law_521 : decode cL_law 521 = .ok (.iaload, 1) := by decide +kernel
theorem dL_law_522 : decode cL_law 522 = .ok (.invokevirtual 79, 3) := by decide +kernel
theorem dL_law_525 : decode cL_law 525 = .ok (.aload_n 2, 1) := by decide +kernel
theorem dL_law_526 : decode cL_law 526 = .ok (.aload_n 0, 1) := by decide +kernel
theorem dL_law_527 : decode cL_law 527 = .ok (.iload_n 3, 1) := by decide +kernel
theorem dL_law_528 : decode cL_law 528 = .ok (.iconst 1, 1) := by decide +kernel
theorem dL_law_529 : decode cL_law 529 = .ok (.iadd, 1) := by decide +kernel
theorem dL_law_530 : decode cL_law 530 = .ok (.iaload, 1) := by decide +kernel
theorem dL_law_531 : decode cL_law 531 = .ok (.aload_n 0, 1) := by decide +kernel
theorem dL_law_532 : decode cL_law 532 = .ok (.iload_n 3, 1) := by decide +kernel
theorem dL_law_533 : decode cL_law 533 = .ok (.iconst 2, 1) := by decide +kernel
theorem dL_law_534 : decode cL_law 534 = .ok (.iadd, 1) := by decide +kernel
theorem dL_law_535 : decode cL_law 535 = .ok (.iaload, 1) := by decide +kernel
theorem dL_law_536 : decode cL_law 536 = .ok (.invokevirtual 82, 3) := by decide +kernel
theorem dL_law_539 : decode cL_law 539 = .ok (.if_icmp .eq 130, 3) := by decide +kernel
theorem dL_law_542 : decode cL_law 542 = .ok (.iconst 0, 1) := by decide +kernel
theorem dL_law_543 : decode cL_law 543 = .ok (.ireturn, 1) := by decide +kernel
theorem dL_law_544 : decode cL_law 544 = .ok (.aload_n 1, 1) := by decide +kernel
theorem dL_law_545 : decode cL_law 545 = .ok (.aload_n 0, 1) := by decide +kernel
theorem dL_law_546 : decode cL_law 546 = .ok (.iload_n 3, 1) := by decide +kernel
theorem dL_law_547 : decode cL_law 547 = .ok (.iconst 1, 1) := by decide +kernel
theorem dL_law_548 : decode cL_law 548 = .ok (.iadd, 1) := by decide +kernel
theorem dL_law_549 : decode cL_law 549 = .ok (.iaload, 1) := by decide +kernel
theorem dL_law_550 : decode cL_law 550 = .ok (.aload_n 0, 1) := by decide +kernel
theorem dL_law_551 : decode cL_law 551 = .ok (.iload_n 3, 1) := by decide +kernel
theorem dL_law_552 : decode cL_law 552 = .ok (.iconst 2, 1) := by decide +kernel
theorem dL_law_553 : decode cL_law 553 = .ok (.iadd, 1) := by decide +kernel
theorem dL_law_554 : decode cL_law 554 = .ok (.iaload, 1) := by decide +kernel
theorem dL_law_555 : decode cL_law 555 = .ok (.invokevirtual 83, 3) := by decide +kernel
theorem dL_law_558 : decode cL_law 558 = .ok (.aload_n 2, 1) := by decide +kernel
theorem dL_law_559 : decode cL_law 559 = .ok (.aload_n 0, 1) := by decide +kernel
theorem dL_law_560 : decode cL_law 560 = .ok (.iload_n 3, 1) := by decide +kernel
theorem dL_law_561 : decode cL_law 561 = .ok (.iconst 1, 1) := by decide +kernel
theorem dL_law_562 : decode cL_law 562 = .ok (.iadd, 1) := by decide +kernel
theorem dL_law_563 : decode cL_law 563 = .ok (.iaload, 1) := by decide +kernel
theorem dL_law_564 : decode cL_law 564 = .ok (.aload_n 0, 1) := by decide +kernel
theorem dL_law_565 : decode cL_law 565 = .ok (.iload_n 3, 1) := by decide +kernel
theorem dL_law_566 : decode cL_law 566 = .ok (.iconst 2, 1) := by decide +kernel
theorem dL_law_567 : decode cL_law 567 = .ok (.iadd, 1) := by decide +kernel
theorem dL_law_568 : decode cL_law 568 = .ok (.iaload, 1) := by decide +kernel
theorem dL_law_569 : decode cL_law 569 = .ok (.invokevirtual 86, 3) := by decide +kernel
theorem dL_law_572 : decode cL_law 572 = .ok (.if_icmp .eq 97, 3) := by decide +kernel
theorem dL_law_575 : decode cL_law 575 = .ok (.iconst 0, 1) := by decide +kernel
theorem dL_law_576 : decode cL_law 576 = .ok (.ireturn, 1) := by decide +kernel
theorem dL_law_577 : decode cL_law 577 = .ok (.aload_n 1, 1) := by decide +kernel
theorem dL_law_578 : decode cL_law 578 = .ok (.aload_n 0, 1) := by decide +kernel
theorem dL_law_579 : decode cL_law 579 = .ok (.iload_n 3, 1) := by decide +kernel
theorem dL_law_580 : decode cL_law 580 = .ok (.iconst 1, 1) := by decide +kernel
theorem dL_law_581 : decode cL_law 581 = .ok (.iadd, 1) := by decide +kernel
theorem dL_law_582 : decode cL_law 582 = .ok (.iaload, 1) := by decide +kernel
theorem dL_law_583 : decode cL_law 583 = .ok (.aload_n 0, 1) := by decide +kernel
theorem dL_law_584 : decode cL_law 584 = .ok (.iload_n 3, 1) := by decide +kernel
theorem dL_law_585 : decode cL_law 585 = .ok (.iconst 2, 1) := by decide +kernel
theorem dL_law_586 : decode cL_law 586 = .ok (.iadd, 1) := by decide +kernel
theorem dL_law_587 : decode cL_law 587 = .ok (.iaload, 1) := by decide +kernel
theorem dL_law_588 : decode cL_law 588 = .ok (.invokevirtual 87, 3) := by decide +kernel
theorem dL_law_591 : decode cL_law 591 = .ok (.aload_n 2, 1) := by decide +kernel
theorem dL_law_592 : decode cL_law 592 = .ok (.aload_n 0, 1) := by decide +kernel
theorem dL_law_593 : decode cL_law 593 = .ok (.iload_n 3, 1) := by decide +kernel
theorem dL_law_594 : decode cL_law 594 = .ok (.iconst 1, 1) := by decide +kernel
theorem dL_law_595 : decode cL_law 595 = .ok (.iadd, 1) := by decide +kernel
theorem dL_law_596 : decode cL_law 596 = .ok (.iaload, 1) := by decide +kernel
theorem dL_law_597 : decode cL_law 597 = .ok (.aload_n 0, 1) := by decide +kernel
theorem dL_law_598 : decode cL_law 598 = .ok (.iload_n 3, 1) := by decide +kernel
theorem dL_law_599 : decode cL_law 599 = .ok (.iconst 2, 1) := by decide +kernel
theorem dL_law_600 : decode cL_law 600 = .ok (.iadd, 1) := by decide +kernel
theorem dL_law_601 : decode cL_law 601 = .ok (.iaload, 1) := by decide +kernel
theorem dL_law_602 : decode cL_law 602 = .ok (.invokevirtual 90, 3) := by decide +kernel
theorem dL_law_605 : decode cL_law 605 = .ok (.if_icmp .eq 64, 3) := by decide +kernel
theorem dL_law_608 : decode cL_law 608 = .ok (.iconst 0, 1) := by decide +kernel
theorem dL_law_609 : decode cL_law 609 = .ok (.ireturn, 1) := by decide +kernel
theorem dL_law_610 : decode cL_law 610 = .ok (.aload_n 1, 1) := by decide +kernel
theorem dL_law_611 : decode cL_law 611 = .ok (.invokevirtual 91, 3) := by decide +kernel
theorem dL_law_614 : decode cL_law 614 = .ok (.aload_n 2, 1) := by decide +kernel
theorem dL_law_615 : decode cL_law 615 = .ok (.invokevirtual 94, 3) := by decide +kernel
theorem dL_law_618 : decode cL_law 618 = .ok (.if_icmp .eq 51, 3) := by decide +kernel
theorem dL_law_621 : decode cL_law 621 = .ok (.iconst 0, 1) := by decide +kernel
theorem dL_law_622 : decode cL_law 622 = .ok (.ireturn, 1) := by decide +kernel
theorem dL_law_623 : decode cL_law 623 = .ok (.aload_n 1, 1) := by decide +kernel
theorem dL_law_624 : decode cL_law 624 = .ok (.aload_n 0, 1) := by decide +kernel
theorem dL_law_625 : decode cL_law 625 = .ok (.iload_n 3, 1) := by decide +kernel
theorem dL_law_626 : decode cL_law 626 = .ok (.iconst 1, 1) := by decide +kernel
theorem dL_law_627 : decode cL_law 627 = .ok (.iadd, 1) := by decide +kernel
theorem dL_law_628 : decode cL_law 628 = .ok (.iaload, 1) := by decide +kernel
theorem dL_law_629 : decode cL_law 629 = .ok (.invokevirtual 95, 3) := by decide +kernel
theorem dL_law_632 : decode cL_law 632 = .ok (.aload_n 2, 1) := by decide +kernel
theorem dL_law_633 : decode cL_law 633 = .ok (.aload_n 0, 1) := by decide +kernel
theorem dL_law_634 : decode cL_law 634 = .ok (.iload_n 3, 1) := by decide +kernel
theorem dL_law_635 : decode cL_law 635 = .ok (.iconst 1, 1) := by decide +kernel
theorem dL_law_636 : decode cL_law 636 = .ok (.iadd, 1) := by decide +kernel
theorem dL_law_637 : decode cL_law 637 = .ok (.iaload, 1) := by decide +kernel
theorem dL_law_638 : decode cL_law 638 = .ok (.invokevirtual 98, 3) := by decide +kernel
theorem dL_law_641 : decode cL_law 641 = .ok (.if_icmp .eq 28, 3) := by decide +kernel
theorem dL_law_644 : decode cL_law 644 = .ok (.iconst 0, 1) := by decide +kernel
theorem dL_law_645 : decode cL_law 645 = .ok (.ireturn, 1) := by decide +kernel
theorem dL_law_646 : decode cL_law 646 = .ok (.aload_n 1, 1) := by decide +kernel
theorem dL_law_647 : decode cL_law 647 = .ok (.aload_n 0, 1) := by decide +kernel
theorem dL_law_648 : decode cL_law 648 = .ok (.iload_n 3, 1) := by decide +kernel
theorem dL_law_649 : decode cL_law 649 = .ok (.iconst 1, 1) := by decide +kernel
theorem dL_law_650 : decode cL_law 650 = .ok (.iadd, 1) := by decide +kernel
theorem dL_law_651 : decode cL_law 651 = .ok (.iaload, 1) := by decide +kernel
theorem dL_law_652 : decode cL_law 652 = .ok (.invokevirtual 99, 3) := by decide +kernel
theorem dL_law_655 : decode cL_law 655 = .ok (.aload_n 2, 1) := by decide +kernel
theorem dL_law_656 : decode cL_law 656 = .ok (.aload_n 0, 1) := by decide +kernel
theorem dL_law_657 : decode cL_law 657 = .ok (.iload_n 3, 1) := by decide +kernel
theorem dL_law_658 : decode cL_law 658 = .ok (.iconst 1, 1) := by decide +kernel
theorem dL_law_659 : decode cL_law 659 = .ok (.iadd, 1) := by decide +kernel
theorem dL_law_660 : decode cL_law 660 = .ok (.iaload, 1) := by decide +kernel
theorem dL_law_661 : decode cL_law 661 = .ok (.invokevirtual 102, 3) := by decide +kernel
theorem dL_law_664 : decode cL_law 664 = .ok (.if_icmp .eq 5, 3) := by decide +kernel
theorem dL_law_667 : decode cL_law 667 = .ok (.iconst 0, 1) := by decide +kernel
theorem dL_law_668 : decode cL_law 668 = .ok (.ireturn, 1) := by decide +kernel
theorem dL_law_669 : decode cL_law 669 = .ok (.iinc 3 5, 3) := by decide +kernel
theorem dL_law_672 : decode cL_law 672 = .ok (.goto (-644), 3) := by decide +kernel
theorem dL_law_675 : decode cL_law 675 = .ok (.iconst 1, 1) := by decide +kernel
theorem dL_law_676 : decode cL_law 676 = .ok (.ireturn, 1) := by decide +kernel
abbrev vwCl : List vw_C := [(RX0, TX0, 3), (RX1, TX1, 13), (RX2, TX2, 7), (RX3, TX3, 7), (RX4, TX4, 2), (RX5, TX5, 5), (RX6, TX6, 12)]
end
section
/-! the words of nest mates, the static row, the worlds, the calls -/
abbrev in_R (i : Int32) (n : Nat) : Prop := ¬ (i < 0 ∨ n ≤ i.toNatClampNeg)
def ck_ {α : Type} (c : Prop) [Decidable c] (k : Option α) : Option α := if c then k else none
theorem ck_some {α : Type} {c : Prop} [Decidable c] {k : Option α} {r : α} (h : ck_ c k = some r) : c ∧ k = some r := by
  unfold ck_ at h
  by_cases hc : c
  · rw [if_pos hc] at h; exact ⟨hc, h⟩
  · rw [if_neg hc] at h; cases h
theorem bd_some {α β : Type} {o : Option α} {k : α → Option β} {b : β} (h : o.bind k = some b) : ∃ a, o = some a ∧ k a = some b := by
  cases o with
  | none => cases h
  | some a => exact ⟨a, rfl, h⟩
def nm_ {α β : Type} (e : α) (k : α → β) : β := k e
theorem nm_some {α β : Type} {e x : α} {k : α → β} {r : β} (ex : x = e) (h : nm_ e k = r) : k x = r := by subst ex; exact h
/-- a loop: its body goes on with a new state (inl) or leaves (inr) -/
def lp_ {σ ρ : Type} (body : σ → Option (σ ⊕ ρ)) : Nat → σ → Option ρ
  | 0, _ => none
  | n + 1, s => (body s).bind (fun x => match x with
    | .inl s' => lp_ body n s'
    | .inr r => some r)
def lp_next {σ ρ : Type} (body : σ → Option (σ ⊕ ρ)) (n : Nat) (r : ρ) (x : σ ⊕ ρ) : Prop := match x with
  | .inl s' => lp_ body n s' = some r
  | .inr r' => r' = r
theorem lp_some {σ ρ : Type} {body : σ → Option (σ ⊕ ρ)} {n : Nat} {s : σ} {r : ρ} (h : lp_ body (n + 1) s = some r) : ∃ x, body s = some x ∧ lp_next body n r x := by
  obtain ⟨x, h1, h2⟩ := bd_some (show (body s).bind _ = some r from h)
  refine ⟨x, h1, ?_⟩
  cases x with
  | inl s' => exact h2
  | inr r' => exact Option.some.inj h2
theorem lp_zero {σ ρ : Type} {body : σ → Option (σ ⊕ ρ)} {s : σ} {r : ρ} (h : lp_ body 0 s = some r) : False := by cases h
/-- rounds enough for every loop of the program -/
def fu_ : Nat := 1000000000

def nest_F : List (String × Nat × String × String × String) := [
  ("SpaceWalls", 118, "SpaceWalls$Heaps", "rank", "[I"), ("SpaceWalls", 160, "SpaceWalls$Cut", "found", "I"), ("SpaceWalls", 56, "SpaceWalls$Planes", "size", "I"),
  ("SpaceWalls", 78, "SpaceWalls$Planes", "a", "[I"), ("SpaceWalls", 82, "SpaceWalls$Planes", "b", "[I"), ("SpaceWalls", 85, "SpaceWalls$Planes", "c", "[I"),
  ("SpaceWalls", 88, "SpaceWalls$Planes", "e", "[I"), ("SpaceWalls", 91, "SpaceWalls$Planes", "numbers", "I"),
  ("SpaceWalls$Arrow", 13, "SpaceWalls$Planes", "b", "[I"), ("SpaceWalls$Arrow", 16, "SpaceWalls$Planes", "c", "[I"), ("SpaceWalls$Arrow", 7, "SpaceWalls$Planes", "a", "[I"),
  ("SpaceWalls$Cut", 113, "SpaceWalls$Arrow", "x", "I"), ("SpaceWalls$Cut", 116, "SpaceWalls$Arrow", "y", "I"), ("SpaceWalls$Cut", 119, "SpaceWalls$Arrow", "z", "I"),
  ("SpaceWalls$Cut", 136, "SpaceWalls$Planes", "e", "[I"), ("SpaceWalls$Cut", 149, "SpaceWalls$Heaps", "common", "[Z"), ("SpaceWalls$Cut", 153, "SpaceWalls$Heaps", "rank", "[I"),
  ("SpaceWalls$Cut", 156, "SpaceWalls$Planes", "numbers", "I"), ("SpaceWalls$Cut", 89, "SpaceWalls$Planes", "size", "I"),
  ("SpaceWalls$Heaps", 39, "SpaceWalls$Planes", "size", "I"), ("SpaceWalls$Heaps", 53, "SpaceWalls$Planes", "a", "[I"), ("SpaceWalls$Heaps", 56, "SpaceWalls$Planes", "b", "[I"),
  ("SpaceWalls$Heaps", 59, "SpaceWalls$Planes", "c", "[I"), ("SpaceWalls$Heaps", 74, "SpaceWalls$Arrow", "x", "I"), ("SpaceWalls$Heaps", 77, "SpaceWalls$Arrow", "y", "I"),
  ("SpaceWalls$Heaps", 80, "SpaceWalls$Arrow", "z", "I"), ("SpaceWalls$Heaps", 83, "SpaceWalls$Planes", "numbers", "I"), ("SpaceWalls$Planes", 34, "SpaceWalls", "POWERS", "[I"),
  ("SpaceWalls$PrimeCounter", 19, "SpaceWalls$Planes", "size", "I"), ("SpaceWalls$PrimeCounter", 25, "SpaceWalls$Planes", "a", "[I"), ("SpaceWalls$PrimeCounter", 37, "SpaceWalls$Planes", "numbers", "I"),
  ("SpaceWalls$PrimeCounter", 50, "SpaceWalls$Planes", "e", "[I"), ("SpaceWalls$PrimeCounter", 53, "SpaceWalls$Planes", "b", "[I"), ("SpaceWalls$PrimeCounter", 56, "SpaceWalls$Planes", "c", "[I")]
def nest_M : List (String × Nat × MethodName) := [
  ("SpaceWalls$Cut", 126, yX5_onMask), ("SpaceWalls$Cut", 129, yX5_aboveMask), ("SpaceWalls$Cut", 159, yX5_maskOf), ("SpaceWalls$Cut", 166, yX5_across), ("SpaceWalls$Cut", 32, yX0_init),
  ("SpaceWalls$Heaps", 30, yX0_init), ("SpaceWalls$Planes", 51, yX5_onMask), ("SpaceWalls$Planes", 55, yX5_aboveMask)]
abbrev nF_ (q : String × Nat × String × String × String) : Cond := .fieldLinkNest q.1 q.2.1 q.2.2.1 q.2.2.2.1 q.2.2.2.2 "SpaceWalls"
abbrev nM_ (q : String × Nat × MethodName) : Cond := .methodLinkNest q.1 q.2.1 q.2.2 "SpaceWalls"
def NW_ (U : State) : Prop := (∀ q ∈ nest_F, va_Nw (nF_ q) U) ∧ ∀ q ∈ nest_M, va_Nw (nM_ q) U
theorem NW_warm {s U : State} (hW : s.WarmedH U.vm) (h : NW_ s) : NW_ U := ⟨fun q hq => va_Nw.warmF hW (h.1 q hq), fun q hq => va_Nw.warmM hW (h.2 q hq)⟩
theorem NW_same {s U : State} (hv : s.vm = U.vm) (h : NW_ s) : NW_ U := ⟨fun q hq => va_Nw.same rfl hv (h.1 q hq), fun q hq => va_Nw.same rfl hv (h.2 q hq)⟩
theorem NW_f {U : State} (h : NW_ U) (k : Nat) {q : String × Nat × String × String × String} (hq : nest_F[k]? = some q) {A : Array Value} : (nF_ q).before A U = true := va_Nw.use rfl (h.1 q (List.mem_of_getElem? hq))
theorem NW_m {U : State} (h : NW_ U) (k : Nat) {q : String × Nat × MethodName} (hq : nest_M[k]? = some q) : va_Nw (nM_ q) U := h.2 q (List.mem_of_getElem? hq)

/-- the static row POWERS: it lies outside of A -/
def pw_ (j : Nat) : Int32 := nI (3 ^ j)
def SP_ (tP : Nat) (A : Nat → Prop) (U : State) (H : Heap) : Prop := va_Z "SpaceWalls" "POWERS" "[I" (.ref tP) A U H ∧ va_T .int tP 8 (fun j => .int (pw_ j)) A U H
theorem SP_kept {tP : Nat} {A : Nat → Prop} {U : State} {H0 H : Heap} {locs : List Loc} (h : SP_ tP A U H0) (hS : va_S A H0 H locs) : SP_ tP A U H := ⟨h.1.kept hS.2.1, h.2.kept hS.2.1⟩
theorem SP_narrow {tP : Nat} {A B : Nat → Prop} {U : State} {H : Heap} (h : SP_ tP A U H) (hAB : ∀ q, B q → A q) : SP_ tP B U H := ⟨h.1.narrow hAB, h.2.narrow hAB⟩
theorem SP_moved {tP : Nat} {A : Nat → Prop} {u U : State} {H : Heap} (hvm : u.vm.Alike U.vm) (h : SP_ tP A u H) : SP_ tP A U H := ⟨h.1.moved hvm, h.2.moved hvm⟩

abbrev ty_ (cI cJ cZ : ClassId) : List (ClassId × FieldType) := [(cI, .int), (cJ, .long), (cZ, .boolean)]
/-- how every contract of a method begins: the world ws, the tables -/
def cPre (D : va_G) (cI cJ cZ : ClassId) (tP : Nat) (ws : va_W) (sz : Nat) (av : List Value) : Array Value → State → Prop := va_Pc av (fun U => U.heap.size = sz ∧ va_P D vwCl ws U.heap ∧ va_K D vwCl (ty_ cI cJ cZ) U ∧ NW_ U ∧ va_D (fun _ => True) ws ∧ SP_ tP (va_A ws sz) U U.heap)
/-- how it ends -/
def cQi (D : va_G) (A : Nat → Prop) (ws' : va_W) (r0 : Int32) : Array Value → State → Outcome → State → Prop := va_Qi (fun r (_ : Unit) => r = r0) (fun _ t => va_P D vwCl ws' t.heap ∧ va_D A ws') A
def cQl (D : va_G) (A : Nat → Prop) (ws' : va_W) (r0 : Int64) : Array Value → State → Outcome → State → Prop := va_Ql (fun r (_ : Unit) => r = r0) (fun _ t => va_P D vwCl ws' t.heap ∧ va_D A ws') A
def cQv (D : va_G) (A : Nat → Prop) (ws' : va_W) : Array Value → State → Outcome → State → Prop := va_Qv (fun (_ : Unit) => True) (fun _ t => va_P D vwCl ws' t.heap ∧ va_D A ws') A
def cQr (D : va_G) (A : Nat → Prop) (ws' : va_W) (a0 : Nat) : Array Value → State → Outcome → State → Prop := va_Qr (fun (_ : Unit) => True) (fun _ a t => a = a0 ∧ va_P D vwCl ws' t.heap ∧ va_D A ws') A
theorem cPre_blind {D : va_G} {cI cJ cZ : ClassId} {tP : Nat} {ws : va_W} {sz : Nat} {av : List Value} : FrameBlind (cPre D cI cJ cZ tP ws sz av) := by
  intro a U g mk q
  obtain ⟨q0, q1, qP, qK, qN, qD, qZ⟩ := q
  exact ⟨q0, q1, qP, va_K.moved (u := U) (U := U.calling g mk a) (Vm.Alike.refl U.vm) qK, NW_same (s := U) (U := U.calling g mk a) rfl qN, qD, SP_moved (u := U) (U := U.calling g mk a) (Vm.Alike.refl U.vm) qZ⟩
theorem va_A_sub {A : Nat → Prop} {ws : va_W} {H0 H : Heap} {locs : List Loc} (hD : va_D A ws) (hS : va_S A H0 H locs) (hA : ∀ q, H0.size ≤ q → A q) : ∀ q, va_A ws H.size q → A q := by
  intro q h
  rcases h with ⟨k, e, hk⟩ | h
  · exact hD.2 k (q, e) hk
  · exact hA q (Nat.le_trans hS.1 h)
theorem cPre_at {D : va_G} {cI cJ cZ : ClassId} {tP : Nat} {ws : va_W} {av : List Value} {A : Nat → Prop} {s : State} {H : Heap} {locs : List Loc} (hP : va_P D vwCl ws H) (hK : va_K D vwCl (ty_ cI cJ cZ) s) (hN : NW_ s) (hD : va_D A ws) (hS : va_S A s.heap H locs) (hA : ∀ q, s.heap.size ≤ q → A q) (hZ : SP_ tP A s s.heap) :
    ∀ U : State, U.heap = H → s.WarmedH U.vm → cPre D cI cJ cZ tP ws H.size av av.toArray U := by
  intro U hU hW
  refine ⟨rfl, by rw [hU], by rw [hU]; exact hP, va_K.moved hW.alike hK, NW_warm hW hN, hD.weaken (fun _ _ _ _ => trivial), ?_⟩
  rw [hU]
  exact SP_moved hW.alike (SP_narrow (SP_kept hZ hS) (va_A_sub hD hS hA))
/-- the same, of a method that needs no world -/
theorem cPre_at0 {D : va_G} {cI cJ cZ : ClassId} {tP : Nat} {av : List Value} {A : Nat → Prop} {s : State} {H : Heap} {locs : List Loc} (hK : va_K D vwCl (ty_ cI cJ cZ) s) (hN : NW_ s) (hS : va_S A s.heap H locs) (hA : ∀ q, s.heap.size ≤ q → A q) (hZ : SP_ tP A s s.heap) :
    ∀ U : State, U.heap = H → s.WarmedH U.vm → cPre D cI cJ cZ tP [] H.size av av.toArray U :=
  cPre_at (A := A) (fun k q h => by simp at h) hK hN ⟨fun i j p q h => by simp at h, fun k q h => by simp at h⟩ hS hA hZ

section KC
variable {p : Program} {l : Launch} {e : Env} {R : Room} {s : State} {m : MethodId} {args : Array Value} {below : List Frame} {meth : Method} {c : Code} {H : Heap} {locs : List Loc} {cells slots : Nat} {Q : State → Prop} {pc : Nat} {ls : Array Slot} {st0 rest : List Value} {a : Array Value} {D : va_G} {A : Nat → Prop} {H0 : Heap} {ws ws' : va_W}
theorem k_i {r0 : Int32} (hr : va_Run p l e R s m args below meth c H locs cells slots 0 0 (F0 m pc ls st0) rest (cQi D (va_A ws H.size) ws' r0 a) (va_A ws H.size)) (hD : va_D A ws) (hS : va_S A H0 H locs) (hA : ∀ q, H0.size ≤ q → A q)
    (kk : ∀ (H1 : Heap) (locs1 : List Loc), va_P D vwCl ws' H1 → va_D A ws' → va_S A H0 H1 locs1 → W p l e R s m args below meth c H1 locs1 cells slots Q (F0 m (pc + 3) ls (.int r0 :: rest))) : W p l e R s m args below meth c H locs cells slots Q (F0 m pc ls st0) := by
  have hF := va_A_sub hD hS hA
  refine va_calli hr hS (fun q _ h => hF q h) hF (fun r u t H1 locs1 ht hvm hw hB hz hk hS1 => ?_)
  subst hw; subst ht
  exact kk _ _ hB.1 (hB.2.weaken (fun _ _ _ h => hF _ h)) hS1
theorem k_l {r0 : Int64} (hr : va_Run p l e R s m args below meth c H locs cells slots 0 0 (F0 m pc ls st0) rest (cQl D (va_A ws H.size) ws' r0 a) (va_A ws H.size)) (hD : va_D A ws) (hS : va_S A H0 H locs) (hA : ∀ q, H0.size ≤ q → A q)
    (kk : ∀ (H1 : Heap) (locs1 : List Loc), va_P D vwCl ws' H1 → va_D A ws' → va_S A H0 H1 locs1 → W p l e R s m args below meth c H1 locs1 cells slots Q (F0 m (pc + 3) ls (.long r0 :: rest))) : W p l e R s m args below meth c H locs cells slots Q (F0 m pc ls st0) := by
  have hF := va_A_sub hD hS hA
  refine va_calll hr hS (fun q _ h => hF q h) hF (fun r u t H1 locs1 ht hvm hw hB hz hk hS1 => ?_)
  subst hw; subst ht
  exact kk _ _ hB.1 (hB.2.weaken (fun _ _ _ h => hF _ h)) hS1
theorem k_v (hr : va_Run p l e R s m args below meth c H locs cells slots 0 0 (F0 m pc ls st0) rest (cQv D (va_A ws H.size) ws' a) (va_A ws H.size)) (hD : va_D A ws) (hS : va_S A H0 H locs) (hA : ∀ q, H0.size ≤ q → A q)
    (kk : ∀ (H1 : Heap) (locs1 : List Loc), va_P D vwCl ws' H1 → va_D A ws' → va_S A H0 H1 locs1 → W p l e R s m args below meth c H1 locs1 cells slots Q (F0 m (pc + 3) ls rest)) : W p l e R s m args below meth c H locs cells slots Q (F0 m pc ls st0) := by
  have hF := va_A_sub hD hS hA
  refine va_callv hr hS (fun q _ h => hF q h) hF (fun u t H1 locs1 ht hvm hw hB hz hk hS1 => ?_)
  subst ht
  exact kk _ _ hB.1 (hB.2.weaken (fun _ _ _ h => hF _ h)) hS1
theorem k_r {a0 : Nat} (hr : va_Run p l e R s m args below meth c H locs cells slots 0 0 (F0 m pc ls st0) rest (cQr D (va_A ws H.size) ws' a0 a) (va_A ws H.size)) (hD : va_D A ws) (hS : va_S A H0 H locs) (hA : ∀ q, H0.size ≤ q → A q)
    (kk : ∀ (H1 : Heap) (locs1 : List Loc), va_P D vwCl ws' H1 → va_D A ws' → va_S A H0 H1 locs1 → W p l e R s m args below meth c H1 locs1 cells slots Q (F0 m (pc + 3) ls (.ref a0 :: rest))) : W p l e R s m args below meth c H locs cells slots Q (F0 m pc ls st0) := by
  have hF := va_A_sub hD hS hA
  refine va_callr hr hS (fun q _ h => hF q h) hF (fun u ra t H1 locs1 ht hvm hw hB hz hk hS1 => ?_)
  obtain ⟨h1, h2, h3⟩ := hB
  subst h1; subst ht
  exact kk _ _ h2 (h3.weaken (fun _ _ _ h => hF _ h)) hS1
theorem va_P_kept0 {H1 : Heap} (hP : va_P D vwCl ws H) (hk : ∀ q : Nat, q < H.size → ¬ va_A [] H.size q → H1[q]? = H[q]?) : va_P D vwCl ws H1 :=
  hP.kept (fun k q hq => hk q.1 (hP k q hq).lt (fun h => by
    rcases h with ⟨i, e, hi⟩ | h
    · simp at hi
    · exact absurd (hP k q hq).lt (Nat.not_lt.mpr h)))
theorem va_A0_sub {A : Nat → Prop} {H0 H : Heap} {locs : List Loc} (hS : va_S A H0 H locs) (hA : ∀ q, H0.size ≤ q → A q) : ∀ q, va_A [] H.size q → A q := by
  intro q h
  rcases h with ⟨k, e, hk⟩ | h
  · simp at hk
  · exact hA q (Nat.le_trans hS.1 h)
theorem k_i0 {r0 : Int32} (hr : va_Run p l e R s m args below meth c H locs cells slots 0 0 (F0 m pc ls st0) rest (cQi D (va_A [] H.size) [] r0 a) (va_A [] H.size)) (hP : va_P D vwCl ws H) (hS : va_S A H0 H locs) (hA : ∀ q, H0.size ≤ q → A q)
    (kk : ∀ (H1 : Heap) (locs1 : List Loc), va_P D vwCl ws H1 → va_S A H0 H1 locs1 → W p l e R s m args below meth c H1 locs1 cells slots Q (F0 m (pc + 3) ls (.int r0 :: rest))) : W p l e R s m args below meth c H locs cells slots Q (F0 m pc ls st0) := by
  have hF := va_A0_sub hS hA
  refine va_calli hr hS (fun q _ h => hF q h) hF (fun r u t H1 locs1 ht hvm hw hB hz hk hS1 => ?_)
  subst hw; subst ht
  exact kk _ _ (va_P_kept0 hP hk) hS1
theorem k_l0 {r0 : Int64} (hr : va_Run p l e R s m args below meth c H locs cells slots 0 0 (F0 m pc ls st0) rest (cQl D (va_A [] H.size) [] r0 a) (va_A [] H.size)) (hP : va_P D vwCl ws H) (hS : va_S A H0 H locs) (hA : ∀ q, H0.size ≤ q → A q)
    (kk : ∀ (H1 : Heap) (locs1 : List Loc), va_P D vwCl ws H1 → va_S A H0 H1 locs1 → W p l e R s m args below meth c H1 locs1 cells slots Q (F0 m (pc + 3) ls (.long r0 :: rest))) : W p l e R s m args below meth c H locs cells slots Q (F0 m pc ls st0) := by
  have hF := va_A0_sub hS hA
  refine va_calll hr hS (fun q _ h => hF q h) hF (fun r u t H1 locs1 ht hvm hw hB hz hk hS1 => ?_)
  subst hw; subst ht
  exact kk _ _ (va_P_kept0 hP hk) hS1
/-- a place where ways meet -/
theorem W_join {cells slots : Nat} {P : Heap → List Loc → Array Slot → Prop} {g : Array Slot → JFrame} {g0 : JFrame}
    (rest : ∀ (H : Heap) (locs : List Loc) (ls : Array Slot), P H locs ls → W p l e R s m args below meth c H locs cells slots Q (g ls))
    (main : (∀ (H : Heap) (locs : List Loc) (ls : Array Slot), P H locs ls → W p l e R s m args below meth c H locs cells slots Q (g ls)) → W p l e R s m args below meth c H locs cells slots Q g0) : W p l e R s m args below meth c H locs cells slots Q g0 := main rest
theorem W_leave {cells slots : Nat} {X : Type} {P : X → Heap → List Loc → Array Slot → Prop} {g : Array Slot → JFrame} {g0 : JFrame}
    (rest : ∀ (y : X) (H : Heap) (locs : List Loc) (ls : Array Slot), P y H locs ls → W p l e R s m args below meth c H locs cells slots Q (g ls))
    (main : (∀ (y : X) (H : Heap) (locs : List Loc) (ls : Array Slot), P y H locs ls → W p l e R s m args below meth c H locs cells slots Q (g ls)) → W p l e R s m args below meth c H locs cells slots Q g0) : W p l e R s m args below meth c H locs cells slots Q g0 := main rest
/-- a loop of the machine beside the loop of the function -/
theorem W_lp {cells slots : Nat} {σ ρ : Type} {body : σ → Option (σ ⊕ ρ)} {P : σ → Heap → List Loc → Array Slot → Prop} {g : σ → Array Slot → JFrame} {r : ρ}
    (step : ∀ (st : σ) (x : σ ⊕ ρ) (H : Heap) (locs : List Loc) (ls : Array Slot), body st = some x → P st H locs ls →
      (∀ (st' : σ) (H' : Heap) (locs' : List Loc) (ls' : Array Slot), x = .inl st' → P st' H' locs' ls' → W p l e R s m args below meth c H' locs' cells slots Q (g st' ls')) →
      (∀ r' : ρ, x = .inr r' → r' = r) → W p l e R s m args below meth c H locs cells slots Q (g st ls)) :
    ∀ (n : Nat) (st : σ) (H : Heap) (locs : List Loc) (ls : Array Slot), lp_ body n st = some r → P st H locs ls → W p l e R s m args below meth c H locs cells slots Q (g st ls) := by
  intro n
  induction n with
  | zero => intro st H locs ls h; exact (lp_zero h).elim
  | succ n ih =>
    intro st H locs ls h hP
    obtain ⟨x, h1, h2⟩ := lp_some h
    refine step st x H locs ls h1 hP ?_ ?_
    · intro st' H' locs' ls' hx hP'
      subst hx
      exact ih st' H' locs' ls' h2 hP'
    · intro r' hx
      subst hx
      exact h2
end KC
theorem se_inl {α β γ : Type} {f : α → γ} {g : β → γ} {x : α} {r : γ} (h : Sum.elim f g (.inl x) = r) : f x = r := h
theorem se_inr {α β γ : Type} {f : α → γ} {g : β → γ} {x : β} {r : γ} (h : Sum.elim f g (.inr x) = r) : g x = r := h
theorem sw_ne {x : Int32} {n : Int32} {k : Int} (hn : n.toInt = k) (h : ¬ x = n) : x.toInt ≠ k := fun e => h (Int32.toInt_inj.mp (e.trans hn.symm))
theorem sw_out4 {x : Int32} (h0 : ¬ x = 0) (h1 : ¬ x = 1) (h2 : ¬ x = 2) (h3 : ¬ x = 3) : x.toInt < 0 ∨ 3 < x.toInt := by
  have a0 := sw_ne (k := 0) rfl h0
  have a1 := sw_ne (k := 1) rfl h1
  have a2 := sw_ne (k := 2) rfl h2
  have a3 := sw_ne (k := 3) rfl h3
  omega
theorem sw_out5 {x : Int32} (h0 : ¬ x = 0) (h1 : ¬ x = 1) (h2 : ¬ x = 2) (h3 : ¬ x = 3) (h4 : ¬ x = 4) : x.toInt < 0 ∨ 4 < x.toInt := by
  have a0 := sw_ne (k := 0) rfl h0
  have a1 := sw_ne (k := 1) rfl h1
  have a2 := sw_ne (k := 2) rfl h2
  have a3 := sw_ne (k := 3) rfl h3
  have a4 := sw_ne (k := 4) rfl h4
  omega
/-- the class's world -/
def WC_ (q : Nat → Nat) (cI cZ : ClassId) (numbers size fresh found lines : Int32) (a b c e thr rank com kx ky kz marks reached rows widths la lb turned : Nat → Int32) (x0 y0 z0 x1 y1 z1 x2 y2 z2 x3 y3 z3 : Int32) : va_W := [
  (q 0, .inr (5, [.ref (q 1), .ref (q 7), .ref (q 14), .ref (q 24), .int fresh])),
  (q 1, .inr (3, [.int numbers, .ref (q 2), .ref (q 3), .ref (q 4), .ref (q 5), .ref (q 6), .int size])),
  (q 2, .inl (cI, 11, .inl a)), (q 3, .inl (cI, 11, .inl b)), (q 4, .inl (cI, 11, .inl c)), (q 5, .inl (cI, 11, .inl e)), (q 6, .inl (cI, 256, .inl thr)),
  (q 7, .inr (2, [.ref (q 1), .ref (q 8), .ref (q 9), .ref (q 10), .ref (q 11), .ref (q 12), .ref (q 13)])),
  (q 8, .inl (cI, 256, .inl rank)), (q 9, .inl (cZ, 256, .inl com)), (q 10, .inl (cI, 256, .inl kx)), (q 11, .inl (cI, 256, .inl ky)), (q 12, .inl (cI, 256, .inl kz)),
  (q 13, .inr (0, [.int x0, .int y0, .int z0])),
  (q 14, .inr (1, [.ref (q 1), .ref (q 7), .ref (q 15), .ref (q 16), .ref (q 17), .ref (q 18), .ref (q 19), .ref (q 20), .ref (q 21), .ref (q 22), .ref (q 23), .int found, .int lines])),
  (q 15, .inl (cI, 206, .inl marks)), (q 16, .inl (cI, 577, .inl reached)), (q 17, .inl (cI, 577, .inl rows)), (q 18, .inl (cI, 577, .inl widths)), (q 19, .inl (cI, 55, .inl la)), (q 20, .inl (cI, 55, .inl lb)),
  (q 21, .inr (0, [.int x1, .int y1, .int z1])), (q 22, .inr (0, [.int x2, .int y2, .int z2])), (q 23, .inr (0, [.int x3, .int y3, .int z3])),
  (q 24, .inr (4, [.ref (q 1), .ref (q 25)])), (q 25, .inl (cI, 8, .inl turned))]
/-- the reference's world -/
def WM_ (q : Nat → Nat) (cI cJ cZ : ClassId) (wide many old sm nm : Int32) (wl isf even nev : Nat → Int32) (sums nxt tab : Nat → Int64) : va_W := [
  (q 0, .inr (6, [.int wide, .int many, .ref (q 1), .ref (q 2), .int old, .ref (q 3), .ref (q 4), .int sm, .ref (q 5), .ref (q 6), .int nm, .ref (q 7)])),
  (q 1, .inl (cI, 32, .inl wl)), (q 2, .inl (cZ, 6561, .inl isf)), (q 3, .inl (cJ, 4400, .inr (.inl sums))), (q 4, .inl (cZ, 1100, .inl even)),
  (q 5, .inl (cJ, 4400, .inr (.inl nxt))), (q 6, .inl (cZ, 1100, .inl nev)), (q 7, .inl (cJ, 32, .inr (.inl tab)))]
end
section
/-! planes and places over the rationals -/
abbrev Wl_ : Type := Int × Int × Int × Int
abbrev V3_ : Type := Rat × Rat × Rat
def o3_ : V3_ := (0, 0, 0)
def dr_ (w : Wl_) (v : V3_) : Rat := (w.1 : Rat) * v.1 + (w.2.1 : Rat) * v.2.1 + (w.2.2.1 : Rat) * v.2.2
def ev_ (w : Wl_) (p : V3_) : Rat := dr_ w p - (w.2.2.2 : Rat)
def ad_ (p : V3_) (t : Rat) (v : V3_) : V3_ := (p.1 + t * v.1, p.2.1 + t * v.2.1, p.2.2 + t * v.2.2)
def mu_ (t : Rat) (v : V3_) : V3_ := (t * v.1, t * v.2.1, t * v.2.2)
theorem dr_ad (w : Wl_) (p : V3_) (t : Rat) (v : V3_) : dr_ w (ad_ p t v) = dr_ w p + t * dr_ w v := by
  simp only [dr_, ad_]; grind
theorem ev_ad (w : Wl_) (p : V3_) (t : Rat) (v : V3_) : ev_ w (ad_ p t v) = ev_ w p + t * dr_ w v := by
  simp only [ev_, dr_ad]; grind
theorem dr_mu (w : Wl_) (t : Rat) (v : V3_) : dr_ w (mu_ t v) = t * dr_ w v := by
  simp only [dr_, mu_]; grind
theorem dr_o (w : Wl_) : dr_ w o3_ = 0 := by simp only [dr_, o3_]; grind
theorem mu_ne {t : Rat} {v : V3_} (ht : t ≠ 0) (hv : v ≠ o3_) : mu_ t v ≠ o3_ := by
  intro h
  apply hv
  simp only [mu_, o3_, Prod.mk.injEq] at h
  obtain ⟨h1, h2, h3⟩ := h
  have a1 : v.1 = 0 := by rcases Rat.mul_eq_zero.mp h1 with h | h <;> grind
  have a2 : v.2.1 = 0 := by rcases Rat.mul_eq_zero.mp h2 with h | h <;> grind
  have a3 : v.2.2 = 0 := by rcases Rat.mul_eq_zero.mp h3 with h | h <;> grind
  exact Prod.ext a1 (Prod.ext a2 a3)
/-! for all small numbers above 0 -/
def Ev_ (P : Rat → Prop) : Prop := ∃ d : Rat, 0 < d ∧ ∀ t, 0 < t → t < d → P t
theorem Ev_and {P Q : Rat → Prop} (h1 : Ev_ P) (h2 : Ev_ Q) : Ev_ (fun t => P t ∧ Q t) := by
  obtain ⟨d, hd, h⟩ := h1
  obtain ⟨d', hd', h'⟩ := h2
  rcases Rat.le_total (a := d) (b := d') with hl | hl
  · exact ⟨d, hd, fun t h0 h3 => ⟨h t h0 h3, h' t h0 (by grind)⟩⟩
  · exact ⟨d', hd', fun t h0 h3 => ⟨h t h0 (by grind), h' t h0 h3⟩⟩
theorem Ev_true {P : Rat → Prop} (h : ∀ t, 0 < t → P t) : Ev_ P := ⟨1, by decide, fun t h0 _ => h t h0⟩
theorem Ev_mono {P Q : Rat → Prop} (h1 : Ev_ P) (h : ∀ t, 0 < t → P t → Q t) : Ev_ Q := by
  obtain ⟨d, hd, h'⟩ := h1
  exact ⟨d, hd, fun t h0 h3 => h t h0 (h' t h0 h3)⟩
theorem Ev_all {α : Type} (L : List α) (P : α → Rat → Prop) (h : ∀ x ∈ L, Ev_ (P x)) : Ev_ (fun t => ∀ x ∈ L, P x t) := by
  induction L with
  | nil => exact Ev_true (fun t _ x hx => by cases hx)
  | cons a L ih =>
    refine Ev_mono (Ev_and (h a List.mem_cons_self) (ih (fun x hx => h x (List.mem_cons_of_mem _ hx)))) ?_
    intro t _ ht x hx
    rcases List.mem_cons.mp hx with rfl | hx
    · exact ht.1
    · exact ht.2 x hx
theorem Ev_get {P : Rat → Prop} (h : Ev_ P) : ∃ t, 0 < t ∧ P t := by
  obtain ⟨d, hd, h⟩ := h
  exact ⟨d / 2, by grind, h _ (by grind) (by grind)⟩
theorem pd_ {a b : Rat} (ha : 0 < a) (hb : 0 < b) : ∃ d : Rat, 0 < d ∧ d * b = a :=
  ⟨a / b, by rw [Rat.div_def]; exact Rat.mul_pos ha (Rat.inv_pos.mpr hb), Rat.div_mul_cancel (by grind)⟩
theorem Ev_lin {a : Rat} (b : Rat) (h : 0 < a) : Ev_ (fun t => 0 < a + t * b) := by
  by_cases hb : 0 ≤ b
  · refine Ev_true (fun t ht => ?_)
    have := Rat.mul_nonneg (Rat.le_of_lt ht) hb
    grind
  · obtain ⟨d, hd, he⟩ := pd_ (a := a) (b := -b) h (by grind)
    refine ⟨d, hd, fun t h0 h1 => ?_⟩
    have := Rat.mul_lt_mul_of_pos_right h1 (show 0 < -b by grind)
    grind
/-- a line a + t b that isn't 0 always is so for no small t -/
theorem Ev_avoid (a b : Rat) : Ev_ (fun t => a + t * b = 0 → a = 0 ∧ b = 0) := by
  by_cases hb : b = 0
  · exact Ev_true (fun t _ h => by subst hb; exact ⟨by grind, rfl⟩)
  · by_cases ha : a = 0
    · refine Ev_true (fun t ht h => ?_)
      subst ha
      have h2 : t * b = 0 := by grind
      rcases Rat.mul_eq_zero.mp h2 with h | h
      · grind
      · exact absurd h hb
    · rcases (show 0 < a ∨ 0 < -a by grind) with h | h
      · exact Ev_mono (Ev_lin b h) (fun t _ ht h0 => by grind)
      · exact Ev_mono (Ev_lin (-b) h) (fun t _ ht h0 => by grind)

/-! flats, rooms, and the ways on for ever -/
def oB_ (B : List Wl_) (p : V3_) : Prop := ∀ w ∈ B, ev_ w p = 0
def pB_ (B : List Wl_) (u : V3_) : Prop := ∀ w ∈ B, dr_ w u = 0
def s1_ (b : Bool) (r : Rat) : Prop := if b = true then 0 < r else r < 0
def r1_ (b : Bool) (r : Rat) : Prop := if b = true then 0 ≤ r else r ≤ 0
def sB_ (L : List (Wl_ × Bool)) (p : V3_) : Prop := ∀ x ∈ L, s1_ x.2 (ev_ x.1 p)
def rB_ (L : List (Wl_ × Bool)) (u : V3_) : Prop := ∀ x ∈ L, r1_ x.2 (dr_ x.1 u)
def Re_ (B : List Wl_) (L : List (Wl_ × Bool)) : Prop := ∃ p, oB_ B p ∧ sB_ L p
def Rc_ (B : List Wl_) (L : List (Wl_ × Bool)) : Prop := ∃ u, pB_ B u ∧ rB_ L u ∧ u ≠ o3_
def Bd_ (B : List Wl_) (L : List (Wl_ × Bool)) : Prop := Re_ B L ∧ ¬ Rc_ B L
theorem oB_cons {w : Wl_} {B : List Wl_} {p : V3_} : oB_ (w :: B) p ↔ ev_ w p = 0 ∧ oB_ B p := List.forall_mem_cons
theorem pB_cons {w : Wl_} {B : List Wl_} {p : V3_} : pB_ (w :: B) p ↔ dr_ w p = 0 ∧ pB_ B p := List.forall_mem_cons
theorem sB_cons {x : Wl_ × Bool} {L : List (Wl_ × Bool)} {p : V3_} : sB_ (x :: L) p ↔ s1_ x.2 (ev_ x.1 p) ∧ sB_ L p := List.forall_mem_cons
theorem rB_cons {x : Wl_ × Bool} {L : List (Wl_ × Bool)} {p : V3_} : rB_ (x :: L) p ↔ r1_ x.2 (dr_ x.1 p) ∧ rB_ L p := List.forall_mem_cons
theorem s1_t {r : Rat} : s1_ true r ↔ 0 < r := by simp [s1_]
theorem s1_f {r : Rat} : s1_ false r ↔ r < 0 := by simp [s1_]
theorem r1_t {r : Rat} : r1_ true r ↔ 0 ≤ r := by simp [r1_]
theorem r1_f {r : Rat} : r1_ false r ↔ r ≤ 0 := by simp [r1_]
theorem oB_ad {B : List Wl_} {p u : V3_} {t : Rat} (h : oB_ B p) (hu : pB_ B u) : oB_ B (ad_ p t u) := by
  intro w hw
  rw [ev_ad, h w hw, hu w hw]; grind
theorem sB_ev {L : List (Wl_ × Bool)} {p : V3_} (h : sB_ L p) (u : V3_) : Ev_ (fun t => sB_ L (ad_ p t u)) := by
  refine Ev_all L (fun x t => s1_ x.2 (ev_ x.1 (ad_ p t u))) ?_
  intro x hx
  have hs := h x hx
  cases hb : x.2 with
  | true =>
    rw [hb, s1_t] at hs
    refine Ev_mono (Ev_lin (dr_ x.1 u) hs) (fun t _ ht => ?_)
    rw [s1_t, ev_ad]; exact ht
  | false =>
    rw [hb, s1_f] at hs
    refine Ev_mono (Ev_lin (a := - ev_ x.1 p) (- dr_ x.1 u) (by grind)) (fun t _ ht => ?_)
    rw [s1_f, ev_ad]; grind
/-- the half between two places is in the room as well -/
theorem s1_mix {b : Bool} {r r' t : Rat} (h : s1_ b r) (h' : s1_ b r') (h0 : 0 ≤ t) (h1 : t ≤ 1) : s1_ b (r + t * (r' - r)) := by
  cases b with
  | true =>
    rw [s1_t] at *
    by_cases ht : t = 0
    · subst ht; grind
    · have h2 := Rat.mul_pos (show 0 < t by grind) h'
      have h3 := Rat.mul_nonneg (show 0 ≤ 1 - t by grind) (Rat.le_of_lt h)
      grind
  | false =>
    rw [s1_f] at *
    by_cases ht : t = 0
    · subst ht; grind
    · have h2 := Rat.mul_pos (show 0 < t by grind) (show 0 < - r' by grind)
      have h3 := Rat.mul_nonneg (show 0 ≤ 1 - t by grind) (show 0 ≤ - r by grind)
      grind
def sb_ (q p : V3_) : V3_ := (q.1 - p.1, q.2.1 - p.2.1, q.2.2 - p.2.2)
theorem dr_sb (w : Wl_) (q p : V3_) : dr_ w (sb_ q p) = ev_ w q - ev_ w p := by
  simp only [ev_, dr_, sb_]; grind
theorem sB_mix {L : List (Wl_ × Bool)} {p q : V3_} {t : Rat} (h : sB_ L p) (h' : sB_ L q) (h0 : 0 ≤ t) (h1 : t ≤ 1) : sB_ L (ad_ p t (sb_ q p)) := by
  intro x hx
  rw [ev_ad, dr_sb]
  exact s1_mix (h x hx) (h' x hx) h0 h1
theorem oB_mix {B : List Wl_} {p q : V3_} {t : Rat} (h : oB_ B p) (h' : oB_ B q) : oB_ B (ad_ p t (sb_ q p)) := by
  intro x hx
  rw [ev_ad, dr_sb, h x hx, h' x hx]; grind
theorem Re_sub {B : List Wl_} {L : List (Wl_ × Bool)} {x : Wl_ × Bool} (h : Re_ B (x :: L)) : Re_ B L := by
  obtain ⟨p, h1, h2⟩ := h
  exact ⟨p, h1, (sB_cons.mp h2).2⟩
theorem Re_on {B : List Wl_} {L : List (Wl_ × Bool)} {w : Wl_} (h : Re_ (w :: B) L) : Re_ B L := by
  obtain ⟨p, h1, h2⟩ := h
  exact ⟨p, (oB_cons.mp h1).2, h2⟩
theorem Re_three {B : List Wl_} {L : List (Wl_ × Bool)} (w : Wl_) (h : Re_ B L) : Re_ B ((w, true) :: L) ∨ Re_ B ((w, false) :: L) ∨ Re_ (w :: B) L := by
  obtain ⟨p, h1, h2⟩ := h
  rcases (show 0 < ev_ w p ∨ ev_ w p < 0 ∨ ev_ w p = 0 by grind) with h | h | h
  · exact Or.inl ⟨p, h1, sB_cons.mpr ⟨s1_t.mpr h, h2⟩⟩
  · exact Or.inr (Or.inl ⟨p, h1, sB_cons.mpr ⟨s1_f.mpr h, h2⟩⟩)
  · exact Or.inr (Or.inr ⟨p, oB_cons.mpr ⟨h, h1⟩, h2⟩)
theorem Re_both {B : List Wl_} {L : List (Wl_ × Bool)} {w : Wl_} (h : Re_ (w :: B) L) (hw : ∃ u, pB_ B u ∧ dr_ w u ≠ 0) : Re_ B ((w, true) :: L) ∧ Re_ B ((w, false) :: L) := by
  obtain ⟨p, h1, h2⟩ := h
  obtain ⟨u, h3, h4⟩ := hw
  rw [oB_cons] at h1
  have key : ∀ v : V3_, pB_ B v → 0 < dr_ w v → Re_ B ((w, true) :: L) := by
    intro v hv hv0
    obtain ⟨t, ht, hs⟩ := Ev_get (sB_ev h2 v)
    refine ⟨ad_ p t v, oB_ad h1.2 hv, sB_cons.mpr ⟨s1_t.mpr ?_, hs⟩⟩
    show 0 < ev_ w (ad_ p t v)
    rw [ev_ad, h1.1]
    have := Rat.mul_pos ht hv0
    grind
  have key2 : ∀ v : V3_, pB_ B v → dr_ w v < 0 → Re_ B ((w, false) :: L) := by
    intro v hv hv0
    obtain ⟨t, ht, hs⟩ := Ev_get (sB_ev h2 v)
    refine ⟨ad_ p t v, oB_ad h1.2 hv, sB_cons.mpr ⟨s1_f.mpr ?_, hs⟩⟩
    show ev_ w (ad_ p t v) < 0
    rw [ev_ad, h1.1]
    have := Rat.mul_pos ht (show 0 < - dr_ w v by grind)
    grind
  have hm : pB_ B (mu_ (-1) u) := fun x hx => by rw [dr_mu, h3 x hx]; grind
  rcases (show 0 < dr_ w u ∨ dr_ w u < 0 by grind) with h | h
  · exact ⟨key u h3 h, key2 _ hm (by rw [dr_mu]; grind)⟩
  · exact ⟨key _ hm (by rw [dr_mu]; grind), key2 u h3 h⟩
theorem Re_meet {B : List Wl_} {L : List (Wl_ × Bool)} {w : Wl_} (h : Re_ B ((w, true) :: L)) (h' : Re_ B ((w, false) :: L)) : Re_ (w :: B) L := by
  obtain ⟨p, h1, h2⟩ := h
  obtain ⟨q, h3, h4⟩ := h'
  rw [sB_cons] at h2 h4
  have a1 : 0 < ev_ w p := s1_t.mp h2.1
  have a2 : ev_ w q < 0 := s1_f.mp h4.1
  obtain ⟨t, ht, he⟩ := pd_ (a := ev_ w p) (b := ev_ w p - ev_ w q) a1 (by grind)
  refine ⟨ad_ p t (sb_ q p), oB_cons.mpr ⟨?_, oB_mix h1 h3⟩, sB_mix h2.2 h4.2 (by grind) ?_⟩
  · rw [ev_ad, dr_sb]; grind
  · rcases Rat.le_total (a := t) (b := 1) with h | h
    · exact h
    · have := Rat.mul_nonneg (show 0 ≤ t - 1 by grind) (show 0 ≤ ev_ w p - ev_ w q by grind)
      grind
theorem rB_add {L : List (Wl_ × Bool)} {p u : V3_} {t : Rat} (h : sB_ L p) (hu : rB_ L u) (ht : 0 ≤ t) : sB_ L (ad_ p t u) := by
  intro x hx
  rw [ev_ad]
  have a1 := h x hx
  have a2 := hu x hx
  cases hb : x.2 with
  | true =>
    rw [hb, s1_t] at a1; rw [hb, r1_t] at a2
    have := Rat.mul_nonneg ht a2
    rw [s1_t]; grind
  | false =>
    rw [hb, s1_f] at a1; rw [hb, r1_f] at a2
    have := Rat.mul_nonneg ht (show 0 ≤ - dr_ x.1 u by grind)
    rw [s1_f]; grind
theorem Rc_sub {B : List Wl_} {L : List (Wl_ × Bool)} {x : Wl_ × Bool} (h : Rc_ B (x :: L)) : Rc_ B L := by
  obtain ⟨u, h1, h2, h3⟩ := h
  exact ⟨u, h1, (rB_cons.mp h2).2, h3⟩
theorem Rc_on {B : List Wl_} {L : List (Wl_ × Bool)} {w : Wl_} (b : Bool) (h : Rc_ (w :: B) L) : Rc_ B ((w, b) :: L) := by
  obtain ⟨u, h1, h2, h3⟩ := h
  rw [pB_cons] at h1
  refine ⟨u, h1.2, rB_cons.mpr ⟨?_, h2⟩, h3⟩
  show r1_ b (dr_ w u)
  rw [h1.1]
  cases b
  · rw [r1_f]; grind
  · rw [r1_t]; grind
theorem Rc_or {B : List Wl_} {L : List (Wl_ × Bool)} (w : Wl_) (h : Rc_ B L) : Rc_ B ((w, true) :: L) ∨ Rc_ B ((w, false) :: L) := by
  obtain ⟨u, h1, h2, h3⟩ := h
  rcases (show 0 ≤ dr_ w u ∨ dr_ w u ≤ 0 by grind) with h | h
  · exact Or.inl ⟨u, h1, rB_cons.mpr ⟨r1_t.mpr h, h2⟩, h3⟩
  · exact Or.inr ⟨u, h1, rB_cons.mpr ⟨r1_f.mpr h, h2⟩, h3⟩
/-- only 0 is along everything -/
def Es_ (B : List Wl_) (A : List Wl_) : Prop := ∀ u, pB_ B u → pB_ A u → u = o3_
theorem Rc_and {B : List Wl_} {L : List (Wl_ × Bool)} {w : Wl_} (hE : Es_ B (L.map Prod.fst)) (h : Rc_ B ((w, true) :: L)) (h' : Rc_ B ((w, false) :: L)) : Rc_ (w :: B) L := by
  obtain ⟨u, h1, h2, h3⟩ := h
  obtain ⟨v, g1, g2, g3⟩ := h'
  rw [rB_cons] at h2 g2
  have a1 : 0 ≤ dr_ w u := r1_t.mp h2.1
  have a2 : dr_ w v ≤ 0 := r1_f.mp g2.1
  by_cases hu : dr_ w u = 0
  · exact ⟨u, pB_cons.mpr ⟨hu, h1⟩, h2.2, h3⟩
  by_cases hv : dr_ w v = 0
  · exact ⟨v, pB_cons.mpr ⟨hv, g1⟩, g2.2, g3⟩
  have b1 : 0 < dr_ w u := by grind
  have b2 : 0 < - dr_ w v := by grind
  refine ⟨ad_ (mu_ (- dr_ w v) u) (dr_ w u) v, pB_cons.mpr ⟨?_, ?_⟩, ?_, ?_⟩
  · rw [dr_ad, dr_mu]; grind
  · intro x hx
    rw [dr_ad, dr_mu, h1 x hx, g1 x hx]; grind
  · intro x hx
    rw [dr_ad, dr_mu]
    have c1 := h2.2 x hx
    have c2 := g2.2 x hx
    cases hb : x.2 with
    | true =>
      rw [hb, r1_t] at c1 c2
      have e1 := Rat.mul_nonneg (Rat.le_of_lt b2) c1
      have e2 := Rat.mul_nonneg (Rat.le_of_lt b1) c2
      rw [r1_t]; grind
    | false =>
      rw [hb, r1_f] at c1 c2
      have e1 := Rat.mul_nonneg (Rat.le_of_lt b2) (show 0 ≤ - dr_ x.1 u by grind)
      have e2 := Rat.mul_nonneg (Rat.le_of_lt b1) (show 0 ≤ - dr_ x.1 v by grind)
      rw [r1_f]; grind
  · intro h0
    apply h3
    refine hE u h1 ?_
    intro y hy
    obtain ⟨x, hx, rfl⟩ := List.mem_map.mp hy
    have e0 : dr_ x.1 (ad_ (mu_ (- dr_ w v) u) (dr_ w u) v) = 0 := by rw [h0, dr_o]
    rw [dr_ad, dr_mu] at e0
    have c1 := h2.2 x hx
    have c2 := g2.2 x hx
    have k1 : (- dr_ w v) * dr_ x.1 u = 0 := by
      cases hb : x.2 with
      | true =>
        rw [hb, r1_t] at c1 c2
        have e1 := Rat.mul_nonneg (Rat.le_of_lt b2) c1
        have e2 := Rat.mul_nonneg (Rat.le_of_lt b1) c2
        grind
      | false =>
        rw [hb, r1_f] at c1 c2
        have e1 := Rat.mul_nonneg (Rat.le_of_lt b2) (show 0 ≤ - dr_ x.1 u by grind)
        have e2 := Rat.mul_nonneg (Rat.le_of_lt b1) (show 0 ≤ - dr_ x.1 v by grind)
        grind
    rcases Rat.mul_eq_zero.mp k1 with h | h
    · grind
    · exact h
/-- a room that lies on one side of a wall goes on for ever on that side alone -/
theorem Rc_side {B : List Wl_} {L : List (Wl_ × Bool)} {w : Wl_} (b : Bool) (h0 : ¬ Re_ (w :: B) L) (h1 : Re_ B ((w, b) :: L)) (h2 : Rc_ B L) : Rc_ B ((w, b) :: L) := by
  obtain ⟨u, k1, k2, k3⟩ := h2
  obtain ⟨p, g1, g2⟩ := h1
  rw [sB_cons] at g2
  refine ⟨u, k1, rB_cons.mpr ⟨?_, k2⟩, k3⟩
  show r1_ b (dr_ w u)
  have g3 : s1_ b (ev_ w p) := g2.1
  cases b with
  | true =>
    rw [s1_t] at g3
    rw [r1_t]
    rcases (show 0 ≤ dr_ w u ∨ dr_ w u < 0 by grind) with h | h
    · exact h
    · obtain ⟨t, ht, he⟩ := pd_ (a := ev_ w p) (b := - dr_ w u) g3 (by grind)
      exact absurd ⟨ad_ p t u, oB_cons.mpr ⟨by rw [ev_ad]; grind, oB_ad g1 k1⟩, rB_add g2.2 k2 (Rat.le_of_lt ht)⟩ h0
  | false =>
    rw [s1_f] at g3
    rw [r1_f]
    rcases (show dr_ w u ≤ 0 ∨ 0 < dr_ w u by grind) with h | h
    · exact h
    · obtain ⟨t, ht, he⟩ := pd_ (a := - ev_ w p) (b := dr_ w u) (by grind) h
      exact absurd ⟨ad_ p t u, oB_cons.mpr ⟨by rw [ev_ad]; grind, oB_ad g1 k1⟩, rB_add g2.2 k2 (Rat.le_of_lt ht)⟩ h0
noncomputable def in_ (P : Prop) : Int := @ite Int P (Classical.propDecidable P) 1 0
theorem in_1 {P : Prop} (h : P) : in_ P = 1 := by unfold in_; exact if_pos h
theorem in_0 {P : Prop} (h : ¬ P) : in_ P = 0 := by unfold in_; exact if_neg h
theorem in_cg {P Q : Prop} (h : P ↔ Q) : in_ P = in_ Q := by rw [propext h]
theorem cut_1 {B : List Wl_} {L : List (Wl_ × Bool)} {w : Wl_} (hE : Es_ B (L.map Prod.fst)) (hw : ∃ u, pB_ B u ∧ dr_ w u ≠ 0) :
    in_ (Bd_ B ((w, true) :: L)) + in_ (Bd_ B ((w, false) :: L)) = in_ (Bd_ B L) + in_ (Bd_ (w :: B) L) := by
  by_cases hR : Re_ B L
  · by_cases h0 : Re_ (w :: B) L
    · obtain ⟨hp, hm⟩ := Re_both h0 hw
      by_cases c1 : Rc_ B ((w, true) :: L)
      · by_cases c2 : Rc_ B ((w, false) :: L)
        · have c0 := Rc_and hE c1 c2
          rw [in_0 (fun h => h.2 c1), in_0 (fun h => h.2 c2), in_0 (fun h => h.2 (Rc_sub c1)), in_0 (fun h => h.2 c0)]
        · rw [in_0 (fun h => h.2 c1), in_1 ⟨hm, c2⟩, in_0 (fun h => h.2 (Rc_sub c1)), in_1 ⟨h0, fun h => c2 (Rc_on false h)⟩]
      · by_cases c2 : Rc_ B ((w, false) :: L)
        · rw [in_1 ⟨hp, c1⟩, in_0 (fun h => h.2 c2), in_0 (fun h => h.2 (Rc_sub c2)), in_1 ⟨h0, fun h => c1 (Rc_on true h)⟩]; rfl
        · rw [in_1 ⟨hp, c1⟩, in_1 ⟨hm, c2⟩, in_1 ⟨hR, fun h => (Rc_or w h).elim c1 c2⟩, in_1 ⟨h0, fun h => c1 (Rc_on true h)⟩]
    · rw [in_0 (P := Bd_ (w :: B) L) (fun h => h0 h.1)]
      by_cases hp : Re_ B ((w, true) :: L)
      · have hm : ¬ Re_ B ((w, false) :: L) := fun h => h0 (Re_meet hp h)
        rw [in_0 (P := Bd_ B ((w, false) :: L)) (fun h => hm h.1), in_cg (show Bd_ B ((w, true) :: L) ↔ Bd_ B L from ⟨fun h => ⟨hR, fun c => h.2 (Rc_side true h0 hp c)⟩, fun h => ⟨hp, fun c => h.2 (Rc_sub c)⟩⟩)]
      · have hm : Re_ B ((w, false) :: L) := by
          rcases Re_three w hR with h | h | h
          · exact absurd h hp
          · exact h
          · exact absurd h h0
        rw [in_0 (P := Bd_ B ((w, true) :: L)) (fun h => hp h.1), in_cg (show Bd_ B ((w, false) :: L) ↔ Bd_ B L from ⟨fun h => ⟨hR, fun c => h.2 (Rc_side false h0 hm c)⟩, fun h => ⟨hm, fun c => h.2 (Rc_sub c)⟩⟩)]
        omega
  · rw [in_0 (fun h => hR (Re_sub h.1)), in_0 (fun h => hR (Re_sub h.1)), in_0 (fun h => hR h.1), in_0 (fun h => hR (Re_on h.1))]
end
section
/-! how many bounded rooms there are: one wall after the other -/
noncomputable def cn_ (B : List Wl_) : List Wl_ → List (Wl_ × Bool) → Int
  | [], L => in_ (Bd_ B L)
  | w :: A, L => cn_ B A ((w, true) :: L) + cn_ B A ((w, false) :: L)
/-- the heaps that have a place in common, odd ones below 0 -/
noncomputable def sS_ : List Wl_ → List Wl_ → Int
  | [], B => in_ (∃ p, oB_ B p)
  | w :: A, B => sS_ A B - sS_ A (w :: B)
theorem Re_cg {B B' : List Wl_} {L L' : List (Wl_ × Bool)} (hB : ∀ x, x ∈ B ↔ x ∈ B') (hL : ∀ x, x ∈ L ↔ x ∈ L') (h : Re_ B L) : Re_ B' L' := by
  obtain ⟨p, h1, h2⟩ := h
  exact ⟨p, fun x hx => h1 x ((hB x).mpr hx), fun x hx => h2 x ((hL x).mpr hx)⟩
theorem Rc_cg {B B' : List Wl_} {L L' : List (Wl_ × Bool)} (hB : ∀ x, x ∈ B ↔ x ∈ B') (hL : ∀ x, x ∈ L ↔ x ∈ L') (h : Rc_ B L) : Rc_ B' L' := by
  obtain ⟨p, h1, h2, h3⟩ := h
  exact ⟨p, fun x hx => h1 x ((hB x).mpr hx), fun x hx => h2 x ((hL x).mpr hx), h3⟩
theorem Bd_cg {B B' : List Wl_} {L L' : List (Wl_ × Bool)} (hB : ∀ x, x ∈ B ↔ x ∈ B') (hL : ∀ x, x ∈ L ↔ x ∈ L') : Bd_ B L ↔ Bd_ B' L' :=
  ⟨fun h => ⟨Re_cg hB hL h.1, fun c => h.2 (Rc_cg (fun x => (hB x).symm) (fun x => (hL x).symm) c)⟩, fun h => ⟨Re_cg (fun x => (hB x).symm) (fun x => (hL x).symm) h.1, fun c => h.2 (Rc_cg hB hL c)⟩⟩
theorem mem_cg {α : Type} {L L' : List α} (x : α) (h : ∀ y, y ∈ L ↔ y ∈ L') : ∀ y, y ∈ x :: L ↔ y ∈ x :: L' := fun y => by simp [h y]
theorem mem_sw {α : Type} (a b : α) (L : List α) : ∀ y, y ∈ a :: b :: L ↔ y ∈ b :: a :: L := fun y => by simp; grind
theorem cn_cg {B B' : List Wl_} (hB : ∀ x, x ∈ B ↔ x ∈ B') : ∀ (A : List Wl_) (L L' : List (Wl_ × Bool)), (∀ x, x ∈ L ↔ x ∈ L') → cn_ B A L = cn_ B' A L' := by
  intro A
  induction A with
  | nil => intro L L' h; exact in_cg (Bd_cg hB h)
  | cons w A ih => intro L L' h; simp only [cn_]; rw [ih _ _ (mem_cg (w, true) h), ih _ _ (mem_cg (w, false) h)]
theorem sS_cg : ∀ (A : List Wl_) (B B' : List Wl_), (∀ x, x ∈ B ↔ x ∈ B') → sS_ A B = sS_ A B' := by
  intro A
  induction A with
  | nil => intro B B' h; exact in_cg ⟨fun ⟨p, hp⟩ => ⟨p, fun x hx => hp x ((h x).mpr hx)⟩, fun ⟨p, hp⟩ => ⟨p, fun x hx => hp x ((h x).mp hx)⟩⟩
  | cons w A ih => intro B B' h; simp only [sS_]; rw [ih _ _ h, ih _ _ (mem_cg w h)]
theorem Es_cg {B : List Wl_} {A A' : List Wl_} (h : ∀ x, x ∈ A ↔ x ∈ A') (hE : Es_ B A) : Es_ B A' := fun u h1 h2 => hE u h1 (fun x hx => h2 x ((h x).mp hx))
theorem cut_all {B : List Wl_} {w : Wl_} (hw : ∃ u, pB_ B u ∧ dr_ w u ≠ 0) : ∀ (A : List Wl_) (L : List (Wl_ × Bool)), Es_ B (L.map Prod.fst ++ A) → cn_ B A ((w, true) :: L) + cn_ B A ((w, false) :: L) = cn_ B A L + cn_ (w :: B) A L := by
  intro A
  induction A with
  | nil => intro L hE; exact cut_1 (by simpa using hE) hw
  | cons v A ih =>
    intro L hE
    simp only [cn_]
    have e1 := ih ((v, true) :: L) (Es_cg (fun x => by simp; grind) hE)
    have e2 := ih ((v, false) :: L) (Es_cg (fun x => by simp; grind) hE)
    rw [cn_cg (fun _ => Iff.rfl) A _ _ (mem_sw (v, true) (w, true) L), cn_cg (fun _ => Iff.rfl) A _ _ (mem_sw (v, true) (w, false) L), cn_cg (fun _ => Iff.rfl) A _ _ (mem_sw (v, false) (w, true) L), cn_cg (fun _ => Iff.rfl) A _ _ (mem_sw (v, false) (w, false) L)]
    omega
theorem cn_none {B : List Wl_} : ∀ (A : List Wl_) (L : List (Wl_ × Bool)), ¬ Re_ B L → cn_ B A L = 0 := by
  intro A
  induction A with
  | nil => intro L h; exact in_0 (fun q => h q.1)
  | cons w A ih => intro L h; simp only [cn_]; rw [ih _ (fun q => h (Re_sub q)), ih _ (fun q => h (Re_sub q))]; rfl
theorem sS_none : ∀ (A : List Wl_) (B : List Wl_), (¬ ∃ p, oB_ B p) → sS_ A B = 0 := by
  intro A
  induction A with
  | nil => intro B h; exact in_0 h
  | cons w A ih => intro B h; simp only [sS_]; rw [ih _ h, ih _ (fun ⟨p, hp⟩ => h ⟨p, (oB_cons.mp hp).2⟩)]; rfl
/-- a way along everything but w: to be on w is no matter -/
theorem sS_free {w : Wl_} : ∀ (A : List Wl_) (B : List Wl_), (∃ u, pB_ B u ∧ pB_ A u ∧ dr_ w u ≠ 0) → sS_ A B = sS_ A (w :: B) := by
  intro A
  induction A with
  | nil =>
    intro B ⟨u, h1, _, h3⟩
    refine in_cg ⟨fun ⟨p, hp⟩ => ?_, fun ⟨p, hp⟩ => ⟨p, (oB_cons.mp hp).2⟩⟩
    refine ⟨ad_ p (- ev_ w p / dr_ w u) u, oB_cons.mpr ⟨?_, oB_ad hp h1⟩⟩
    rw [ev_ad, Rat.div_mul_cancel h3]; grind
  | cons a A ih =>
    intro B ⟨u, h1, h2, h3⟩
    rw [pB_cons] at h2
    simp only [sS_]
    rw [ih B ⟨u, h1, h2.2, h3⟩, ih (a :: B) ⟨u, pB_cons.mpr ⟨h2.1, h1⟩, h2.2, h3⟩, sS_cg A _ _ (mem_sw w a B)]
theorem cn_free {B : List Wl_} : ∀ (A : List Wl_) (L : List (Wl_ × Bool)), (∃ u, pB_ B u ∧ pB_ A u ∧ rB_ L u ∧ u ≠ o3_) → cn_ B A L = 0 := by
  intro A
  induction A with
  | nil => intro L ⟨u, h1, _, h3, h4⟩; exact in_0 (fun q => q.2 ⟨u, h1, h3, h4⟩)
  | cons a A ih =>
    intro L ⟨u, h1, h2, h3, h4⟩
    rw [pB_cons] at h2
    simp only [cn_]
    have hb : ∀ b : Bool, r1_ b (dr_ a u) := by
      intro b
      rw [h2.1]
      cases b
      · rw [r1_f]; grind
      · rw [r1_t]; grind
    rw [ih _ ⟨u, h1, h2.2, rB_cons.mpr ⟨hb true, h3⟩, h4⟩, ih _ ⟨u, h1, h2.2, rB_cons.mpr ⟨hb false, h3⟩, h4⟩]; rfl
/-! walls one after the other that cross all those before -/
def Id_ : List Wl_ → Prop
  | [] => True
  | w :: B => Id_ B ∧ ∃ u, pB_ B u ∧ dr_ w u ≠ 0
theorem perp_2 (a b : V3_) : ∃ u : V3_, u ≠ o3_ ∧ a.1 * u.1 + a.2.1 * u.2.1 + a.2.2 * u.2.2 = 0 ∧ b.1 * u.1 + b.2.1 * u.2.1 + b.2.2 * u.2.2 = 0 := by
  obtain ⟨a1, a2, a3⟩ := a
  obtain ⟨b1, b2, b3⟩ := b
  simp only [o3_]
  by_cases h : (a2 * b3 - a3 * b2, a3 * b1 - a1 * b3, a1 * b2 - a2 * b1) = ((0, 0, 0) : V3_)
  · simp only [Prod.mk.injEq] at h
    obtain ⟨h1, h2, h3⟩ := h
    -- parallel: any way across the one that isn't 0
    by_cases ha1 : a1 = 0
    · by_cases ha2 : a2 = 0
      · by_cases ha3 : a3 = 0
        · by_cases hb1 : b1 = 0
          · exact ⟨(1, 0, 0), by simp, by simp only []; grind, by simp only []; grind⟩
          · exact ⟨(-b2, b1, 0), by simp; grind, by simp only []; grind, by simp only []; grind⟩
        · exact ⟨(1, 0, 0), by simp, by simp only []; grind, by
            have : a3 * b1 = 0 := by grind
            rcases Rat.mul_eq_zero.mp this with h | h <;> simp only [] <;> grind⟩
      · exact ⟨(1, 0, 0), by simp, by simp only []; grind, by
            have : a2 * b1 = 0 := by grind
            rcases Rat.mul_eq_zero.mp this with h | h <;> simp only [] <;> grind⟩
    · exact ⟨(-a2, a1, 0), by simp; grind, by simp only []; grind, by simp only []; grind⟩
  · exact ⟨_, h, by simp only []; grind, by simp only []; grind⟩
def nv_ (w : Wl_) : V3_ := ((w.1 : Rat), (w.2.1 : Rat), (w.2.2.1 : Rat))
theorem dr_nv (w : Wl_) (u : V3_) : dr_ w u = (nv_ w).1 * u.1 + (nv_ w).2.1 * u.2.1 + (nv_ w).2.2 * u.2.2 := rfl
theorem Id_3 {a b c : Wl_} (h : Id_ [c, b, a]) : ∀ v : V3_, dr_ a v = 0 → dr_ b v = 0 → dr_ c v = 0 → v = o3_ := by
  obtain ⟨⟨⟨-, u1, -, h1⟩, u2, h2, h3⟩, u3, h4, h5⟩ := h
  have k2 : dr_ a u2 = 0 := h2 a (by simp)
  have k3 : dr_ a u3 = 0 := h4 a (by simp)
  have k4 : dr_ b u3 = 0 := h4 b (by simp)
  intro v g1 g2 g3
  rw [dr_nv] at *
  generalize nv_ a = a at *
  generalize nv_ b = b at *
  generalize nv_ c = c at *
  obtain ⟨a1, a2, a3⟩ := a
  obtain ⟨b1, b2, b3⟩ := b
  obtain ⟨c1, c2, c3⟩ := c
  obtain ⟨x1, x2, x3⟩ := u1
  obtain ⟨y1, y2, y3⟩ := u2
  obtain ⟨z1, z2, z3⟩ := u3
  obtain ⟨v1, v2, v3⟩ := v
  simp only [dr_nv] at *
  -- the determinant of a, b, c isn't 0, for its product with that of the ways isn't
  have hdet : (a1 * (b2 * c3 - b3 * c2) - a2 * (b1 * c3 - b3 * c1) + a3 * (b1 * c2 - b2 * c1)) * (x1 * (y2 * z3 - y3 * z2) - x2 * (y1 * z3 - y3 * z1) + x3 * (y1 * z2 - y2 * z1)) = (a1 * x1 + a2 * x2 + a3 * x3) * (b1 * y1 + b2 * y2 + b3 * y3) * (c1 * z1 + c2 * z2 + c3 * z3) := by
    grind
  have hd : a1 * (b2 * c3 - b3 * c2) - a2 * (b1 * c3 - b3 * c1) + a3 * (b1 * c2 - b2 * c1) ≠ 0 := by
    intro h0
    rw [h0] at hdet
    have q : (a1 * x1 + a2 * x2 + a3 * x3) * (b1 * y1 + b2 * y2 + b3 * y3) * (c1 * z1 + c2 * z2 + c3 * z3) = 0 := by grind
    rcases Rat.mul_eq_zero.mp q with q | q
    · rcases Rat.mul_eq_zero.mp q with q | q
      · exact h1 q
      · exact h3 q
    · exact h5 q
  have e1 : (a1 * (b2 * c3 - b3 * c2) - a2 * (b1 * c3 - b3 * c1) + a3 * (b1 * c2 - b2 * c1)) * v1 = 0 := by grind
  have e2 : (a1 * (b2 * c3 - b3 * c2) - a2 * (b1 * c3 - b3 * c1) + a3 * (b1 * c2 - b2 * c1)) * v2 = 0 := by grind
  have e3 : (a1 * (b2 * c3 - b3 * c2) - a2 * (b1 * c3 - b3 * c1) + a3 * (b1 * c2 - b2 * c1)) * v3 = 0 := by grind
  have w1 := (Rat.mul_eq_zero.mp e1).resolve_left hd
  have w2 := (Rat.mul_eq_zero.mp e2).resolve_left hd
  have w3 := (Rat.mul_eq_zero.mp e3).resolve_left hd
  simp only [o3_, w1, w2, w3]
theorem Id_le : ∀ (B : List Wl_), Id_ B → B.length ≤ 3 := by
  intro B h
  match B, h with
  | [], _ => simp
  | [_], _ => simp
  | [_, _], _ => simp
  | [_, _, _], _ => simp
  | d :: c :: b :: a :: B, h =>
    exfalso
    -- the last four: cut the rest off
    have key : ∀ (X Y : List Wl_), Id_ (X ++ Y) → Id_ X := by
      intro X Y
      induction X with
      | nil => intro _; trivial
      | cons x X ih =>
        intro ⟨q1, u, q2, q3⟩
        exact ⟨ih q1, u, fun y hy => q2 y (List.mem_append_left _ hy), q3⟩
    have h4 : Id_ [d, c, b, a] := key [d, c, b, a] B h
    obtain ⟨h3, u, h5, h6⟩ := h4
    have hu : u = o3_ := Id_3 h3 u (h5 a (by simp)) (h5 b (by simp)) (h5 c (by simp))
    rw [hu, dr_o] at h6
    exact h6 rfl
theorem Id_es {B : List Wl_} (h : Id_ B) (hE : Es_ B []) : B.length = 3 := by
  have hl := Id_le B h
  match B, h, hE with
  | [], _, hE =>
    exfalso
    have := hE (1, 0, 0) (fun x hx => by cases hx) (fun x hx => by cases hx)
    simp [o3_] at this
  | [a], _, hE =>
    exfalso
    obtain ⟨u, h1, h2, -⟩ := perp_2 (nv_ a) (nv_ a)
    exact h1 (hE u (fun x hx => by rw [List.mem_singleton] at hx; subst hx; exact h2) (fun x hx => by cases hx))
  | [a, b], _, hE =>
    exfalso
    obtain ⟨u, h1, h2, h3⟩ := perp_2 (nv_ a) (nv_ b)
    exact h1 (hE u (fun x hx => by
      rcases List.mem_cons.mp hx with rfl | hx
      · exact h2
      · rw [List.mem_singleton] at hx; subst hx; exact h3) (fun x hx => by cases hx))
  | [_, _, _], _, _ => rfl
  | _ :: _ :: _ :: _ :: _, _, _ => simp at hl
/-- 1 for an odd number, -1 for an even one -/
def sg3_ (n : Nat) : Int := if n % 2 = 1 then 1 else -1
theorem sg3_s (n : Nat) : sg3_ (n + 1) = - sg3_ n := by
  unfold sg3_
  by_cases h : n % 2 = 1
  · rw [if_pos h, if_neg (by omega)]
  · rw [if_neg h, if_pos (by omega)]; rfl
/-- Zaslavsky's count of the bounded rooms -/
theorem zas_ : ∀ (A B : List Wl_), Id_ B → (∃ p, oB_ B p) → Es_ B A → cn_ B A [] = sg3_ B.length * sS_ A B := by
  intro A
  induction A with
  | nil =>
    intro B hI hp hE
    have h3 := Id_es hI hE
    simp only [cn_, sS_]
    rw [in_1 hp, in_1 (P := Bd_ B []) ⟨⟨hp.choose, hp.choose_spec, fun x hx => by cases hx⟩, fun ⟨u, h1, _, h2⟩ => h2 (hE u h1 (fun x hx => by cases hx))⟩, h3]
    rfl
  | cons w A ih =>
    intro B hI hp hE
    by_cases hw : ∃ u, pB_ B u ∧ dr_ w u ≠ 0
    · have hI' : Id_ (w :: B) := ⟨hI, hw⟩
      have hp' : ∃ p, oB_ (w :: B) p := by
        obtain ⟨p, hp⟩ := hp
        obtain ⟨u, h1, h2⟩ := hw
        refine ⟨ad_ p (- ev_ w p / dr_ w u) u, oB_cons.mpr ⟨?_, oB_ad hp h1⟩⟩
        rw [ev_ad, Rat.div_mul_cancel h2]; grind
      have hE' : Es_ (w :: B) A := fun u h1 h2 => hE u (pB_cons.mp h1).2 (pB_cons.mpr ⟨(pB_cons.mp h1).1, h2⟩)
      have e1 := ih (w :: B) hI' hp' hE'
      rw [List.length_cons, sg3_s] at e1
      by_cases hA : Es_ B A
      · have e2 := ih B hI hp hA
        have e3 := cut_all hw A [] (by simpa using hA)
        simp only [cn_, sS_]
        rw [e3, e1, e2]
        rw [Int.mul_sub, Int.neg_mul]; omega
      · have : ∃ u, pB_ B u ∧ pB_ A u ∧ u ≠ o3_ := by
          refine Classical.byContradiction (fun hn => hA (fun u h1 h2 => Classical.byContradiction (fun h3 => hn ⟨u, h1, h2, h3⟩)))
        obtain ⟨u, h1, h2, h3⟩ := this
        have h4 : dr_ w u ≠ 0 := fun h0 => h3 (hE u h1 (pB_cons.mpr ⟨h0, h2⟩))
        simp only [cn_, sS_]
        rw [← sS_free A B ⟨u, h1, h2, h4⟩]
        have hm1 : pB_ B (mu_ (-1) u) := fun x hx => by rw [dr_mu, h1 x hx]; grind
        have hm2 : pB_ A (mu_ (-1) u) := fun x hx => by rw [dr_mu, h2 x hx]; grind
        have hm3 : mu_ (-1) u ≠ o3_ := mu_ne (by decide) h3
        have hnil : ∀ v, rB_ [] v := fun v x hx => by cases hx
        rcases (show 0 < dr_ w u ∨ dr_ w u < 0 by grind) with h | h
        · rw [cn_free A [(w, true)] ⟨u, h1, h2, rB_cons.mpr ⟨r1_t.mpr (Rat.le_of_lt h), hnil _⟩, h3⟩, cn_free A [(w, false)] ⟨_, hm1, hm2, rB_cons.mpr ⟨r1_f.mpr (by show dr_ w _ ≤ 0; rw [dr_mu]; grind), hnil _⟩, hm3⟩]
          rw [Int.sub_self, Int.mul_zero]; rfl
        · rw [cn_free A [(w, false)] ⟨u, h1, h2, rB_cons.mpr ⟨r1_f.mpr (Rat.le_of_lt h), hnil _⟩, h3⟩, cn_free A [(w, true)] ⟨_, hm1, hm2, rB_cons.mpr ⟨r1_t.mpr (by show 0 ≤ dr_ w _; rw [dr_mu]; grind), hnil _⟩, hm3⟩]
          rw [Int.sub_self, Int.mul_zero]; rfl
    · have hc : ∀ u, pB_ B u → dr_ w u = 0 := fun u h1 => Classical.byContradiction (fun h2 => hw ⟨u, h1, h2⟩)
      obtain ⟨p0, hp0⟩ := hp
      have hconst : ∀ p, oB_ B p → ev_ w p = ev_ w p0 := by
        intro p hp
        have := hc (sb_ p p0) (fun x hx => by rw [dr_sb, hp x hx, hp0 x hx]; grind)
        rw [dr_sb] at this
        grind
      have hEA : Es_ B A := fun u h1 h2 => hE u h1 (pB_cons.mpr ⟨hc u h1, h2⟩)
      have e2 := ih B hI ⟨p0, hp0⟩ hEA
      by_cases h0 : ev_ w p0 = 0
      · have hsame : sS_ A (w :: B) = sS_ A B := by
          have gen : ∀ (A B' : List Wl_), sS_ A (w :: (B' ++ B)) = sS_ A (B' ++ B) := by
            intro A
            induction A with
            | nil =>
              intro B'
              refine in_cg ⟨fun ⟨p, hp⟩ => ⟨p, (oB_cons.mp hp).2⟩, fun ⟨p, hp⟩ => ⟨p, oB_cons.mpr ⟨?_, hp⟩⟩⟩
              rw [hconst p (fun x hx => hp x (List.mem_append_right _ hx)), h0]
            | cons a A ih2 =>
              intro B'
              simp only [sS_]
              have e5 : sS_ A (w :: a :: (B' ++ B)) = sS_ A (a :: (B' ++ B)) := ih2 (a :: B')
              rw [ih2 B', sS_cg A _ _ (mem_sw a w (B' ++ B)), e5]
          exact gen A []
        simp only [cn_, sS_]
        rw [hsame, cn_none A [(w, true)] (fun ⟨p, q1, q2⟩ => by
          have := s1_t.mp (sB_cons.mp q2).1
          rw [hconst p q1, h0] at this; grind), cn_none A [(w, false)] (fun ⟨p, q1, q2⟩ => by
          have := s1_f.mp (sB_cons.mp q2).1
          rw [hconst p q1, h0] at this; grind), Int.sub_self, Int.mul_zero]; rfl
      · have hn : sS_ A (w :: B) = 0 := sS_none A _ (fun ⟨p, hp⟩ => by
          have := oB_cons.mp hp
          exact h0 ((hconst p this.2).symm.trans this.1))
        have same : ∀ (b : Bool), s1_ b (ev_ w p0) → ∀ (A : List Wl_) (L : List (Wl_ × Bool)), cn_ B A ((w, b) :: L) = cn_ B A L := by
          intro b hb A
          induction A with
          | nil =>
            intro L
            refine in_cg ⟨fun h => ⟨Re_sub h.1, fun ⟨u, q1, q2, q3⟩ => h.2 ⟨u, q1, rB_cons.mpr ⟨?_, q2⟩, q3⟩⟩, fun h => ⟨?_, fun q => h.2 (Rc_sub q)⟩⟩
            · show r1_ b (dr_ w u)
              rw [hc u q1]
              cases b
              · rw [r1_f]; grind
              · rw [r1_t]; grind
            · obtain ⟨p, q1, q2⟩ := h.1
              exact ⟨p, q1, sB_cons.mpr ⟨by show s1_ b (ev_ w p); rw [hconst p q1]; exact hb, q2⟩⟩
          | cons a A ih2 =>
            intro L
            simp only [cn_]
            rw [cn_cg (fun _ => Iff.rfl) A _ _ (mem_sw (a, true) (w, b) L), cn_cg (fun _ => Iff.rfl) A _ _ (mem_sw (a, false) (w, b) L), ih2, ih2]
        simp only [cn_, sS_]
        rw [hn, Int.sub_zero, ← e2]
        rcases (show 0 < ev_ w p0 ∨ ev_ w p0 < 0 by grind) with h | h
        · rw [same true (s1_t.mpr h) A [], cn_none A [(w, false)] (fun ⟨p, q1, q2⟩ => by
            have := s1_f.mp (sB_cons.mp q2).1
            rw [hconst p q1] at this; grind)]; omega
        · rw [same false (s1_f.mpr h) A [], cn_none A [(w, true)] (fun ⟨p, q1, q2⟩ => by
            have := s1_t.mp (sB_cons.mp q2).1
            rw [hconst p q1] at this; grind)]; omega
end
section
/-! how many faces there are at most -/
def s3_ (s : Nat) (r : Rat) : Prop := if s = 0 then r < 0 else if s = 1 then r = 0 else 0 < r
def S3_ (L : List (Wl_ × Nat)) (p : V3_) : Prop := ∀ x ∈ L, s3_ x.2 (ev_ x.1 p)
def F3_ (B : List Wl_) (L : List (Wl_ × Nat)) : Prop := ∃ p, oB_ B p ∧ S3_ L p
theorem S3_cons {x : Wl_ × Nat} {L : List (Wl_ × Nat)} {p : V3_} : S3_ (x :: L) p ↔ s3_ x.2 (ev_ x.1 p) ∧ S3_ L p := List.forall_mem_cons
theorem s3_0 {r : Rat} : s3_ 0 r ↔ r < 0 := by simp [s3_]
theorem s3_1 {r : Rat} : s3_ 1 r ↔ r = 0 := by simp [s3_]
theorem s3_2 {r : Rat} : s3_ 2 r ↔ 0 < r := by simp [s3_]
noncomputable def iN_ (P : Prop) : Nat := @ite Nat P (Classical.propDecidable P) 1 0
theorem iN_1 {P : Prop} (h : P) : iN_ P = 1 := by unfold iN_; exact if_pos h
theorem iN_0 {P : Prop} (h : ¬ P) : iN_ P = 0 := by unfold iN_; exact if_neg h
theorem iN_cg {P Q : Prop} (h : P ↔ Q) : iN_ P = iN_ Q := by rw [propext h]
theorem iN_le (P : Prop) : iN_ P ≤ 1 := by
  by_cases h : P
  · rw [iN_1 h]; exact Nat.le_refl _
  · rw [iN_0 h]; omega
noncomputable def fc_ (B : List Wl_) : List Wl_ → List (Wl_ × Nat) → Nat
  | [], L => iN_ (F3_ B L)
  | w :: A, L => fc_ B A ((w, 0) :: L) + fc_ B A ((w, 1) :: L) + fc_ B A ((w, 2) :: L)
theorem F3_sub {B : List Wl_} {L : List (Wl_ × Nat)} {x : Wl_ × Nat} (h : F3_ B (x :: L)) : F3_ B L := by
  obtain ⟨p, h1, h2⟩ := h
  exact ⟨p, h1, (S3_cons.mp h2).2⟩
theorem F3_on {B : List Wl_} {L : List (Wl_ × Nat)} {w : Wl_} : F3_ B ((w, 1) :: L) ↔ F3_ (w :: B) L :=
  ⟨fun ⟨p, h1, h2⟩ => ⟨p, oB_cons.mpr ⟨s3_1.mp (S3_cons.mp h2).1, h1⟩, (S3_cons.mp h2).2⟩, fun ⟨p, h1, h2⟩ => ⟨p, (oB_cons.mp h1).2, S3_cons.mpr ⟨s3_1.mpr (oB_cons.mp h1).1, h2⟩⟩⟩
theorem s3_mix {s : Nat} {r r' t : Rat} (h : s3_ s r) (h' : s3_ s r') (h0 : 0 ≤ t) (h1 : t ≤ 1) : s3_ s (r + t * (r' - r)) := by
  unfold s3_ at *
  by_cases c0 : s = 0
  · rw [if_pos c0] at *
    exact s1_f.mp (s1_mix (b := false) (s1_f.mpr h) (s1_f.mpr h') h0 h1)
  · rw [if_neg c0] at *
    by_cases c1 : s = 1
    · rw [if_pos c1] at *; rw [h, h']; grind
    · rw [if_neg c1] at *
      exact s1_t.mp (s1_mix (b := true) (s1_t.mpr h) (s1_t.mpr h') h0 h1)
theorem F3_meet {B : List Wl_} {L : List (Wl_ × Nat)} {w : Wl_} (h : F3_ B ((w, 2) :: L)) (h' : F3_ B ((w, 0) :: L)) : F3_ (w :: B) L := by
  obtain ⟨p, h1, h2⟩ := h
  obtain ⟨q, h3, h4⟩ := h'
  rw [S3_cons] at h2 h4
  have a1 : 0 < ev_ w p := s3_2.mp h2.1
  have a2 : ev_ w q < 0 := s3_0.mp h4.1
  obtain ⟨t, ht, he⟩ := pd_ (a := ev_ w p) (b := ev_ w p - ev_ w q) a1 (by grind)
  have t1 : t ≤ 1 := by
    rcases Rat.le_total (a := t) (b := 1) with h | h
    · exact h
    · have := Rat.mul_nonneg (show 0 ≤ t - 1 by grind) (show 0 ≤ ev_ w p - ev_ w q by grind)
      grind
  refine ⟨ad_ p t (sb_ q p), oB_cons.mpr ⟨?_, oB_mix h1 h3⟩, fun x hx => ?_⟩
  · rw [ev_ad, dr_sb]; grind
  · rw [ev_ad, dr_sb]
    exact s3_mix (h2.2 x hx) (h4.2 x hx) (by grind) t1
theorem fc_1 (B : List Wl_) (L : List (Wl_ × Nat)) (w : Wl_) : iN_ (F3_ B ((w, 0) :: L)) + iN_ (F3_ B ((w, 1) :: L)) + iN_ (F3_ B ((w, 2) :: L)) ≤ iN_ (F3_ B L) + 2 * iN_ (F3_ (w :: B) L) := by
  have l0 := iN_le (F3_ B ((w, 0) :: L))
  have l1 := iN_le (F3_ B ((w, 1) :: L))
  have l2 := iN_le (F3_ B ((w, 2) :: L))
  by_cases h : F3_ (w :: B) L
  · rw [iN_1 h, iN_1 (F3_sub (F3_on.mpr h))]; omega
  · rw [iN_0 (P := F3_ B ((w, 1) :: L)) (fun q => h (F3_on.mp q))]
    by_cases h0 : F3_ B ((w, 0) :: L)
    · rw [iN_0 (P := F3_ B ((w, 2) :: L)) (fun q => h (F3_meet q h0)), iN_1 (F3_sub h0)]; omega
    · rw [iN_0 h0]
      by_cases h2 : F3_ B ((w, 2) :: L)
      · rw [iN_1 (F3_sub h2)]; omega
      · rw [iN_0 h2]; omega
theorem fc_c (B : List Wl_) (L : List (Wl_ × Nat)) (w : Wl_) (hc : ∀ u, pB_ B u → dr_ w u = 0) : iN_ (F3_ B ((w, 0) :: L)) + iN_ (F3_ B ((w, 1) :: L)) + iN_ (F3_ B ((w, 2) :: L)) ≤ iN_ (F3_ B L) := by
  have same : ∀ p q, oB_ B p → oB_ B q → ev_ w p = ev_ w q := by
    intro p q hp hq
    have := hc (sb_ p q) (fun x hx => by rw [dr_sb, hp x hx, hq x hx]; grind)
    rw [dr_sb] at this
    grind
  by_cases h0 : F3_ B ((w, 0) :: L)
  · obtain ⟨p, h1, h2⟩ := id h0
    have e0 : ev_ w p < 0 := s3_0.mp (S3_cons.mp h2).1
    rw [iN_1 h0, iN_1 (F3_sub h0), iN_0 (P := F3_ B ((w, 1) :: L)) (fun ⟨q, g1, g2⟩ => by
      have := s3_1.mp (S3_cons.mp g2).1
      have := same p q h1 g1
      grind), iN_0 (P := F3_ B ((w, 2) :: L)) (fun ⟨q, g1, g2⟩ => by
      have := s3_2.mp (S3_cons.mp g2).1
      have := same p q h1 g1
      grind)]
    omega
  · rw [iN_0 h0]
    by_cases h1 : F3_ B ((w, 1) :: L)
    · obtain ⟨p, k1, k2⟩ := id h1
      have e0 : ev_ w p = 0 := s3_1.mp (S3_cons.mp k2).1
      rw [iN_1 h1, iN_1 (F3_sub h1), iN_0 (P := F3_ B ((w, 2) :: L)) (fun ⟨q, g1, g2⟩ => by
        have := s3_2.mp (S3_cons.mp g2).1
        have := same p q k1 g1
        grind)]
      omega
    · rw [iN_0 h1]
      by_cases h2 : F3_ B ((w, 2) :: L)
      · rw [iN_1 h2, iN_1 (F3_sub h2)]; omega
      · rw [iN_0 h2]; omega
theorem F3_cg {B B' : List Wl_} {L L' : List (Wl_ × Nat)} (hB : ∀ x, x ∈ B ↔ x ∈ B') (hL : ∀ x, x ∈ L ↔ x ∈ L') : F3_ B L ↔ F3_ B' L' :=
  ⟨fun ⟨p, h1, h2⟩ => ⟨p, fun x hx => h1 x ((hB x).mpr hx), fun x hx => h2 x ((hL x).mpr hx)⟩, fun ⟨p, h1, h2⟩ => ⟨p, fun x hx => h1 x ((hB x).mp hx), fun x hx => h2 x ((hL x).mp hx)⟩⟩
theorem fc_cg {B : List Wl_} : ∀ (A : List Wl_) (L L' : List (Wl_ × Nat)), (∀ x, x ∈ L ↔ x ∈ L') → fc_ B A L = fc_ B A L' := by
  intro A
  induction A with
  | nil => intro L L' h; exact iN_cg (F3_cg (fun _ => Iff.rfl) h)
  | cons w A ih => intro L L' h; simp only [fc_]; rw [ih _ _ (mem_cg (w, 0) h), ih _ _ (mem_cg (w, 1) h), ih _ _ (mem_cg (w, 2) h)]
theorem fc_cut {B : List Wl_} {w : Wl_} : ∀ (A : List Wl_) (L : List (Wl_ × Nat)), fc_ B A ((w, 0) :: L) + fc_ B A ((w, 1) :: L) + fc_ B A ((w, 2) :: L) ≤ fc_ B A L + 2 * fc_ (w :: B) A L := by
  intro A
  induction A with
  | nil => intro L; exact fc_1 B L w
  | cons v A ih =>
    intro L
    have e0 := ih ((v, 0) :: L)
    have e1 := ih ((v, 1) :: L)
    have e2 := ih ((v, 2) :: L)
    simp only [fc_]
    have sw : ∀ i j : Nat, fc_ B A ((v, i) :: (w, j) :: L) = fc_ B A ((w, j) :: (v, i) :: L) := fun i j => fc_cg A _ _ (mem_sw (v, i) (w, j) L)
    rw [sw 0 0, sw 0 1, sw 0 2, sw 1 0, sw 1 1, sw 1 2, sw 2 0, sw 2 1, sw 2 2]
    omega
theorem fc_cutc {B : List Wl_} {w : Wl_} (hc : ∀ u, pB_ B u → dr_ w u = 0) : ∀ (A : List Wl_) (L : List (Wl_ × Nat)), fc_ B A ((w, 0) :: L) + fc_ B A ((w, 1) :: L) + fc_ B A ((w, 2) :: L) ≤ fc_ B A L := by
  intro A
  induction A with
  | nil => intro L; exact fc_c B L w hc
  | cons v A ih =>
    intro L
    have e0 := ih ((v, 0) :: L)
    have e1 := ih ((v, 1) :: L)
    have e2 := ih ((v, 2) :: L)
    simp only [fc_]
    have sw : ∀ i j : Nat, fc_ B A ((v, i) :: (w, j) :: L) = fc_ B A ((w, j) :: (v, i) :: L) := fun i j => fc_cg A _ _ (mem_sw (v, i) (w, j) L)
    rw [sw 0 0, sw 0 1, sw 0 2, sw 1 0, sw 1 1, sw 1 2, sw 2 0, sw 2 1, sw 2 2]
    omega
/-- the most that m walls make of a flat of n numbers -/
def ph_ : Nat → Nat → Nat
  | _, 0 => 1
  | 0, m + 1 => ph_ 0 m
  | n + 1, m + 1 => ph_ (n + 1) m + 2 * ph_ n m
theorem ph_s (n m : Nat) : ph_ n m ≤ ph_ n (m + 1) := by
  cases n with
  | zero => simp only [ph_]; exact Nat.le_refl _
  | succ n => simp only [ph_]; omega
theorem fc_le : ∀ (A B : List Wl_), Id_ B → fc_ B A [] ≤ ph_ (3 - B.length) A.length := by
  intro A
  induction A with
  | nil => intro B _; simp only [fc_, List.length_nil, ph_]; exact iN_le _
  | cons w A ih =>
    intro B hI
    by_cases hw : ∃ u, pB_ B u ∧ dr_ w u ≠ 0
    · have hI' : Id_ (w :: B) := ⟨hI, hw⟩
      have hl := Id_le _ hI'
      rw [List.length_cons] at hl
      have e1 := ih B hI
      have e2 := ih (w :: B) hI'
      have e3 := fc_cut (B := B) (w := w) A []
      rw [List.length_cons] at e2
      obtain ⟨k, hk⟩ : ∃ k, 3 - B.length = k + 1 := ⟨2 - B.length, by omega⟩
      rw [show 3 - (B.length + 1) = k by omega] at e2
      rw [hk] at e1 ⊢
      simp only [fc_, List.length_cons, ph_]
      omega
    · have hc : ∀ u, pB_ B u → dr_ w u = 0 := fun u h1 => Classical.byContradiction (fun h2 => hw ⟨u, h1, h2⟩)
      have e1 := ih B hI
      have e3 := fc_cutc hc A []
      have e4 := ph_s (3 - B.length) A.length
      simp only [fc_, List.length_cons]
      omega
theorem ph_38 : ph_ 3 8 = 577 := by decide
theorem ph_mono (n : Nat) : ∀ k m : Nat, ph_ n m ≤ ph_ n (m + k) := by
  intro k
  induction k with
  | zero => intro m; exact Nat.le_refl _
  | succ k ih => intro m; exact Nat.le_trans (ih m) (ph_s n (m + k))
theorem fc_577 (A : List Wl_) (h : A.length ≤ 8) : fc_ [] A [] ≤ 577 := by
  have e1 := fc_le A [] trivial
  have e2 := ph_mono 3 (8 - A.length) A.length
  rw [show A.length + (8 - A.length) = 8 by omega, ph_38] at e2
  exact Nat.le_trans e1 e2
end
section
/-! every face is reached: corners, and small ways along lines -/
def cx_ (x y : Wl_) : V3_ := ((x.2.1 : Rat) * y.2.2.1 - (x.2.2.1 : Rat) * y.2.1, (x.2.2.1 : Rat) * y.1 - (x.1 : Rat) * y.2.2.1, (x.1 : Rat) * y.2.1 - (x.2.1 : Rat) * y.1)
/-- the determinant of three normals -/
def dt_ (x y z : Wl_) : Rat := dr_ z (cx_ x y)
theorem dr_cx1 (x y : Wl_) : dr_ x (cx_ x y) = 0 := by simp only [dr_, cx_]; grind
theorem dr_cx2 (x y : Wl_) : dr_ y (cx_ x y) = 0 := by simp only [dr_, cx_]; grind
theorem dt_rot (x y z : Wl_) : dr_ x (cx_ y z) = dt_ x y z := by simp only [dt_, dr_, cx_]; grind
theorem dt_rot2 (x y z : Wl_) : dr_ y (cx_ x z) = - dt_ x y z := by simp only [dt_, dr_, cx_]; grind
def sg_ (r : Rat) : Nat := if r < 0 then 0 else if r = 0 then 1 else 2
theorem sg_neg {r : Rat} (h : r < 0) : sg_ r = 0 := by simp [sg_, h]
theorem sg_zero {r : Rat} (h : r = 0) : sg_ r = 1 := by subst h; simp [sg_]
theorem sg_pos {r : Rat} (h : 0 < r) : sg_ r = 2 := by
  unfold sg_
  rw [if_neg (by grind), if_neg (by grind)]
theorem sg_eq0 {r : Rat} : sg_ r = 0 ↔ r < 0 := ⟨fun h => by
  rcases (show r < 0 ∨ r = 0 ∨ 0 < r by grind) with q | q | q
  · exact q
  · rw [sg_zero q] at h; cases h
  · rw [sg_pos q] at h; exact absurd h (by decide), sg_neg⟩
theorem sg_eq1 {r : Rat} : sg_ r = 1 ↔ r = 0 := ⟨fun h => by
  rcases (show r < 0 ∨ r = 0 ∨ 0 < r by grind) with q | q | q
  · rw [sg_neg q] at h; cases h
  · exact q
  · rw [sg_pos q] at h; exact absurd h (by decide), sg_zero⟩
theorem sg_eq2 {r : Rat} : sg_ r = 2 ↔ 0 < r := ⟨fun h => by
  rcases (show r < 0 ∨ r = 0 ∨ 0 < r by grind) with q | q | q
  · rw [sg_neg q] at h; cases h
  · rw [sg_zero q] at h; cases h
  · exact q, sg_pos⟩
theorem sg_scale {r t : Rat} (ht : 0 < t) : sg_ (t * r) = sg_ r := by
  rcases (show r < 0 ∨ r = 0 ∨ 0 < r by grind) with q | q | q
  · have := Rat.mul_pos ht (show 0 < -r by grind)
    rw [sg_neg q, sg_neg (by grind)]
  · rw [q, Rat.mul_zero]
  · rw [sg_pos q, sg_pos (Rat.mul_pos ht q)]
theorem sg_s3 {r : Rat} {s : Nat} (h : s ≤ 2) : sg_ r = s ↔ s3_ s r := by
  rcases (show s = 0 ∨ s = 1 ∨ s = 2 by omega) with rfl | rfl | rfl
  · rw [sg_eq0, s3_0]
  · rw [sg_eq1, s3_1]
  · rw [sg_eq2, s3_2]
/-- two places of one row -/
def RE_ (A : List Wl_) (p q : V3_) : Prop := ∀ x ∈ A, sg_ (ev_ x p) = sg_ (ev_ x q)
theorem RE_refl (A : List Wl_) (p : V3_) : RE_ A p p := fun _ _ => rfl
theorem RE_symm {A : List Wl_} {p q : V3_} (h : RE_ A p q) : RE_ A q p := fun x hx => (h x hx).symm
theorem RE_trans {A : List Wl_} {p q r : V3_} (h : RE_ A p q) (h' : RE_ A q r) : RE_ A p r := fun x hx => (h x hx).trans (h' x hx)
def On_ (A : List Wl_) (p : V3_) : Wl_ → Prop := fun x => x ∈ A ∧ ev_ x p = 0
theorem On_cg {A : List Wl_} {p q : V3_} (h : RE_ A p q) (x : Wl_) : On_ A p x ↔ On_ A q x :=
  ⟨fun ⟨h1, h2⟩ => ⟨h1, sg_eq1.mp ((h x h1).symm.trans (sg_eq1.mpr h2))⟩, fun ⟨h1, h2⟩ => ⟨h1, sg_eq1.mp ((h x h1).trans (sg_eq1.mpr h2))⟩⟩
def R2_ (X : Wl_ → Prop) : Prop := ∃ x y, X x ∧ X y ∧ cx_ x y ≠ o3_
def R3_ (X : Wl_ → Prop) : Prop := ∃ x y z, X x ∧ X y ∧ X z ∧ dt_ x y z ≠ 0
noncomputable def rk_ (X : Wl_ → Prop) : Nat := @ite Nat (R3_ X) (Classical.propDecidable _) 3 (@ite Nat (R2_ X) (Classical.propDecidable _) 2 (@ite Nat (∃ x, X x) (Classical.propDecidable _) 1 0))
theorem rk_3 {X : Wl_ → Prop} (h : R3_ X) : rk_ X = 3 := by unfold rk_; exact if_pos h
theorem rk_2 {X : Wl_ → Prop} (h : R2_ X) (h3 : ¬ R3_ X) : rk_ X = 2 := by unfold rk_; rw [if_neg h3, if_pos h]
theorem rk_1 {X : Wl_ → Prop} (h : ∃ x, X x) (h2 : ¬ R2_ X) (h3 : ¬ R3_ X) : rk_ X = 1 := by unfold rk_; rw [if_neg h3, if_neg h2, if_pos h]
theorem rk_0 {X : Wl_ → Prop} (h : ¬ ∃ x, X x) (h2 : ¬ R2_ X) (h3 : ¬ R3_ X) : rk_ X = 0 := by unfold rk_; rw [if_neg h3, if_neg h2, if_neg h]
theorem rk_cg {X Y : Wl_ → Prop} (h : ∀ x, X x ↔ Y x) : rk_ X = rk_ Y := by
  have : X = Y := funext (fun x => propext (h x))
  rw [this]
theorem dt_0 {x y : Wl_} (h : cx_ x y = o3_) (z : Wl_) : dt_ x y z = 0 := by rw [dt_, h, dr_o]
theorem R3_R2 {X : Wl_ → Prop} (h : R3_ X) : R2_ X := by
  obtain ⟨x, y, z, h1, h2, h3, h4⟩ := h
  exact ⟨x, y, h1, h2, fun h0 => h4 (dt_0 h0 z)⟩
theorem R2_ex {X : Wl_ → Prop} (h : R2_ X) : ∃ x, X x := by obtain ⟨x, _, h1, _⟩ := h; exact ⟨x, h1⟩
theorem rk_le3 (X : Wl_ → Prop) : rk_ X ≤ 3 := by
  by_cases h3 : R3_ X
  · rw [rk_3 h3]; exact Nat.le_refl _
  · by_cases h2 : R2_ X
    · rw [rk_2 h2 h3]; omega
    · by_cases h1 : ∃ x, X x
      · rw [rk_1 h1 h2 h3]; omega
      · rw [rk_0 h1 h2 h3]; omega
/-- what is across both of two crossing walls is along their line -/
theorem along_cx {x y : Wl_} {u : V3_} (h1 : dr_ x u = 0) (h2 : dr_ y u = 0) (hc : cx_ x y ≠ o3_) : ∃ t : Rat, u = mu_ t (cx_ x y) := by
  obtain ⟨a1, a2, a3, e⟩ := x
  obtain ⟨b1, b2, b3, f⟩ := y
  obtain ⟨u1, u2, u3⟩ := u
  simp only [dr_, cx_, mu_, o3_, ne_eq, Prod.mk.injEq, not_and] at *
  generalize (a1 : Rat) = a1 at *
  generalize (a2 : Rat) = a2 at *
  generalize (a3 : Rat) = a3 at *
  generalize (b1 : Rat) = b1 at *
  generalize (b2 : Rat) = b2 at *
  generalize (b3 : Rat) = b3 at *
  by_cases c1 : a2 * b3 - a3 * b2 = 0
  · by_cases c2 : a3 * b1 - a1 * b3 = 0
    · have c3 := hc c1 c2
      refine ⟨u3 / (a1 * b2 - a2 * b1), ?_, ?_, ?_⟩
      · have : u1 * (a1 * b2 - a2 * b1) = 0 := by grind
        rw [c1, Rat.mul_zero]; exact (Rat.mul_eq_zero.mp this).resolve_right c3
      · have : u2 * (a1 * b2 - a2 * b1) = 0 := by grind
        rw [c2, Rat.mul_zero]; exact (Rat.mul_eq_zero.mp this).resolve_right c3
      · exact (Rat.div_mul_cancel c3).symm
    · refine ⟨u2 / (a3 * b1 - a1 * b3), ?_, (Rat.div_mul_cancel c2).symm, ?_⟩
      · have : u1 * (a3 * b1 - a1 * b3) = 0 := by grind
        rw [c1, Rat.mul_zero]; exact (Rat.mul_eq_zero.mp this).resolve_right c2
      · have h3 : (u3 - u2 / (a3 * b1 - a1 * b3) * (a1 * b2 - a2 * b1)) * (a3 * b1 - a1 * b3) = 0 := by
          have := Rat.div_mul_cancel (a := u2) c2
          grind
        have := (Rat.mul_eq_zero.mp h3).resolve_right c2
        grind
  · refine ⟨u1 / (a2 * b3 - a3 * b2), (Rat.div_mul_cancel c1).symm, ?_, ?_⟩
    · have h3 : (u2 - u1 / (a2 * b3 - a3 * b2) * (a3 * b1 - a1 * b3)) * (a2 * b3 - a3 * b2) = 0 := by
        have := Rat.div_mul_cancel (a := u1) c1
        grind
      have := (Rat.mul_eq_zero.mp h3).resolve_right c1
      grind
    · have h3 : (u3 - u1 / (a2 * b3 - a3 * b2) * (a1 * b2 - a2 * b1)) * (a2 * b3 - a3 * b2) = 0 := by
        have := Rat.div_mul_cancel (a := u1) c1
        grind
      have := (Rat.mul_eq_zero.mp h3).resolve_right c1
      grind
/-- what is across one of the normals, in a set where all are parallel, is across all -/
theorem par_all {X : Wl_ → Prop} (h2 : ¬ R2_ X) {x y : Wl_} (hx : X x) (hy : X y) (hn : nv_ x ≠ o3_) {u : V3_} (hu : dr_ x u = 0) : dr_ y u = 0 := by
  have hc : cx_ x y = o3_ := Classical.byContradiction (fun h => h2 ⟨x, y, hx, hy, h⟩)
  obtain ⟨a1, a2, a3, e⟩ := x
  obtain ⟨b1, b2, b3, f⟩ := y
  obtain ⟨u1, u2, u3⟩ := u
  simp only [dr_, cx_, nv_, o3_, ne_eq, Prod.mk.injEq, not_and] at *
  generalize (a1 : Rat) = a1 at *
  generalize (a2 : Rat) = a2 at *
  generalize (a3 : Rat) = a3 at *
  generalize (b1 : Rat) = b1 at *
  generalize (b2 : Rat) = b2 at *
  generalize (b3 : Rat) = b3 at *
  obtain ⟨c1, c2, c3⟩ := hc
  by_cases q1 : a1 = 0
  · by_cases q2 : a2 = 0
    · have q3 := hn q1 q2
      have : (b1 * u1 + b2 * u2 + b3 * u3) * a3 = 0 := by grind
      exact (Rat.mul_eq_zero.mp this).resolve_right q3
    · have : (b1 * u1 + b2 * u2 + b3 * u3) * a2 = 0 := by grind
      exact (Rat.mul_eq_zero.mp this).resolve_right q2
  · have : (b1 * u1 + b2 * u2 + b3 * u3) * a1 = 0 := by grind
    exact (Rat.mul_eq_zero.mp this).resolve_right q1
/-- what is across two crossing ones, in a set where no three cross, is across all -/
theorem flat_all {X : Wl_ → Prop} (h3 : ¬ R3_ X) {x y z : Wl_} (hx : X x) (hy : X y) (hz : X z) (hc : cx_ x y ≠ o3_) {u : V3_} (hu : dr_ x u = 0) (hv : dr_ y u = 0) : dr_ z u = 0 := by
  obtain ⟨t, rfl⟩ := along_cx hu hv hc
  have : dt_ x y z = 0 := Classical.byContradiction (fun h => h3 ⟨x, y, z, hx, hy, hz, h⟩)
  rw [dr_mu]
  show t * dt_ x y z = 0
  rw [this, Rat.mul_zero]
/-- a wall in the place of one of three that cross -/
theorem swap_in {X : Wl_ → Prop} (h3 : R3_ X) {x : Wl_} (hn : nv_ x ≠ o3_) : ∃ y z, X y ∧ X z ∧ dt_ x y z ≠ 0 := by
  obtain ⟨a, b, c, ha, hb, hc, hd⟩ := h3
  refine Classical.byContradiction (fun hno => hn ?_)
  have q : ∀ y z, X y → X z → dt_ x y z = 0 := fun y z hy hz => Classical.byContradiction (fun h => hno ⟨y, z, hy, hz, h⟩)
  have q1 := q b c hb hc
  have q2 := q c a hc ha
  have q3 := q a b ha hb
  clear q hno ha hb hc
  obtain ⟨x1, x2, x3, e⟩ := x
  obtain ⟨a1, a2, a3, e1⟩ := a
  obtain ⟨b1, b2, b3, e2⟩ := b
  obtain ⟨c1, c2, c3, e3⟩ := c
  simp only [dt_, dr_, cx_, nv_, o3_, Prod.mk.injEq] at *
  generalize (x1 : Rat) = x1 at *
  generalize (x2 : Rat) = x2 at *
  generalize (x3 : Rat) = x3 at *
  generalize (a1 : Rat) = a1 at *
  generalize (a2 : Rat) = a2 at *
  generalize (a3 : Rat) = a3 at *
  generalize (b1 : Rat) = b1 at *
  generalize (b2 : Rat) = b2 at *
  generalize (b3 : Rat) = b3 at *
  generalize (c1 : Rat) = c1 at *
  generalize (c2 : Rat) = c2 at *
  generalize (c3 : Rat) = c3 at *
  have e1 : x1 * (c1 * (a2 * b3 - a3 * b2) + c2 * (a3 * b1 - a1 * b3) + c3 * (a1 * b2 - a2 * b1)) = 0 := by grind
  have e2 : x2 * (c1 * (a2 * b3 - a3 * b2) + c2 * (a3 * b1 - a1 * b3) + c3 * (a1 * b2 - a2 * b1)) = 0 := by grind
  have e3 : x3 * (c1 * (a2 * b3 - a3 * b2) + c2 * (a3 * b1 - a1 * b3) + c3 * (a1 * b2 - a2 * b1)) = 0 := by grind
  exact ⟨(Rat.mul_eq_zero.mp e1).resolve_right hd, (Rat.mul_eq_zero.mp e2).resolve_right hd, (Rat.mul_eq_zero.mp e3).resolve_right hd⟩
/-- a third one beside two that cross -/
theorem third_in {X : Wl_ → Prop} (h3 : R3_ X) {x y : Wl_} (hc : cx_ x y ≠ o3_) : ∃ z, X z ∧ dt_ x y z ≠ 0 := by
  obtain ⟨a, b, c, ha, hb, hc', hd⟩ := h3
  refine Classical.byContradiction (fun hno => hc ?_)
  have q : ∀ z, X z → dr_ z (cx_ x y) = 0 := fun z hz => Classical.byContradiction (fun h => hno ⟨z, hz, h⟩)
  exact Classical.byContradiction (fun hne => by
    have q1 := q a ha
    have q2 := q b hb
    have q3 := q c hc'
    have hcab : cx_ a b ≠ o3_ := fun h0 => hd (dt_0 h0 c)
    obtain ⟨t, ht⟩ := along_cx q1 q2 hcab
    rw [ht, dr_mu] at q3
    rcases Rat.mul_eq_zero.mp q3 with h | h
    · apply hne
      rw [ht, h]
      simp only [mu_, o3_, Rat.zero_mul]
    · exact hd h)
/-- the corner of three walls -/
def cor_ (x y z : Wl_) : V3_ :=
  ((x.2.2.2 * (cx_ y z).1 + y.2.2.2 * (cx_ z x).1 + z.2.2.2 * (cx_ x y).1) / dt_ x y z,
   (x.2.2.2 * (cx_ y z).2.1 + y.2.2.2 * (cx_ z x).2.1 + z.2.2.2 * (cx_ x y).2.1) / dt_ x y z,
   (x.2.2.2 * (cx_ y z).2.2 + y.2.2.2 * (cx_ z x).2.2 + z.2.2.2 * (cx_ x y).2.2) / dt_ x y z)
theorem cor_dr (x y z w : Wl_) (h : dt_ x y z ≠ 0) : dr_ w (cor_ x y z) * dt_ x y z = x.2.2.2 * dr_ w (cx_ y z) + y.2.2.2 * dr_ w (cx_ z x) + z.2.2.2 * dr_ w (cx_ x y) := by
  have c1 := Rat.div_mul_cancel (a := (x.2.2.2 * (cx_ y z).1 + y.2.2.2 * (cx_ z x).1 + z.2.2.2 * (cx_ x y).1)) h
  have c2 := Rat.div_mul_cancel (a := (x.2.2.2 * (cx_ y z).2.1 + y.2.2.2 * (cx_ z x).2.1 + z.2.2.2 * (cx_ x y).2.1)) h
  have c3 := Rat.div_mul_cancel (a := (x.2.2.2 * (cx_ y z).2.2 + y.2.2.2 * (cx_ z x).2.2 + z.2.2.2 * (cx_ x y).2.2)) h
  simp only [cor_, dr_] at *
  grind
theorem cor_on (x y z : Wl_) (h : dt_ x y z ≠ 0) : ev_ x (cor_ x y z) = 0 ∧ ev_ y (cor_ x y z) = 0 ∧ ev_ z (cor_ x y z) = 0 := by
  have k : ∀ w : Wl_, (x.2.2.2 * dr_ w (cx_ y z) + y.2.2.2 * dr_ w (cx_ z x) + z.2.2.2 * dr_ w (cx_ x y) : Rat) = w.2.2.2 * dt_ x y z → ev_ w (cor_ x y z) = 0 := by
    intro w hw
    have := cor_dr x y z w h
    have h2 : ev_ w (cor_ x y z) * dt_ x y z = 0 := by
      unfold ev_; grind
    exact (Rat.mul_eq_zero.mp h2).resolve_right h
  refine ⟨k x ?_, k y ?_, k z ?_⟩
  · rw [dr_cx1, dr_cx2, dt_rot]; grind
  · rw [dr_cx1, dr_cx2, show dr_ y (cx_ z x) = dt_ x y z by simp only [dt_, dr_, cx_]; grind]; grind
  · rw [dr_cx1, dr_cx2]; unfold dt_; grind
theorem min_ex {α : Type} (f : α → Rat) (P : α → Prop) : ∀ L : List α, (∃ x ∈ L, P x) → ∃ x ∈ L, P x ∧ ∀ y ∈ L, P y → f x ≤ f y := by
  intro L
  induction L with
  | nil => intro ⟨x, hx, _⟩; cases hx
  | cons a L ih =>
    intro ⟨x, hx, hp⟩
    by_cases hL : ∃ x ∈ L, P x
    · obtain ⟨m, hm, h1, h2⟩ := ih hL
      by_cases ha : P a ∧ f a ≤ f m
      · refine ⟨a, List.mem_cons_self, ha.1, ?_⟩
        intro y hy hpy
        rcases List.mem_cons.mp hy with rfl | hy
        · exact Rat.le_refl
        · exact Rat.le_trans ha.2 (h2 y hy hpy)
      · refine ⟨m, List.mem_cons_of_mem _ hm, h1, ?_⟩
        intro y hy hpy
        rcases List.mem_cons.mp hy with rfl | hy
        · exact Rat.le_of_lt (Rat.not_le.mp (fun h => ha ⟨hpy, h⟩))
        · exact h2 y hy hpy
    · rcases List.mem_cons.mp hx with rfl | hx
      · refine ⟨x, List.mem_cons_self, hp, ?_⟩
        intro y hy hpy
        rcases List.mem_cons.mp hy with rfl | hy
        · exact Rat.le_refl
        · exact absurd ⟨y, hy, hpy⟩ hL
      · exact absurd ⟨x, hx, hp⟩ hL
end
section
/-! a little aside, so that no two walls are met at once by chance -/
def nn_ (v : V3_) (p : V3_) (x y : Wl_) : Rat := ev_ x p * dr_ y v - ev_ y p * dr_ x v
def bb_ (v u : V3_) (x y : Wl_) : Rat := dr_ x u * dr_ y v - dr_ y u * dr_ x v
theorem aside {A : List Wl_} (p v u : V3_) (hS : ∀ x ∈ A, ev_ x p = 0 → dr_ x u = 0) :
    ∃ p1, RE_ A p1 p ∧ ∀ x ∈ A, ∀ y ∈ A, nn_ v p1 x y = 0 → nn_ v p x y = 0 ∧ bb_ v u x y = 0 := by
  have e1 : Ev_ (fun t => ∀ x ∈ A, sg_ (ev_ x (ad_ p t u)) = sg_ (ev_ x p)) := by
    refine Ev_all A (fun x t => sg_ (ev_ x (ad_ p t u)) = sg_ (ev_ x p)) ?_
    intro x hx
    rcases (show ev_ x p < 0 ∨ ev_ x p = 0 ∨ 0 < ev_ x p by grind) with h | h | h
    · refine Ev_mono (Ev_lin (a := - ev_ x p) (- dr_ x u) (by grind)) (fun t _ ht => ?_)
      rw [sg_neg h, ev_ad]; exact sg_neg (by grind)
    · refine Ev_true (fun t _ => ?_)
      rw [ev_ad, hS x hx h, Rat.mul_zero]; congr 1; grind
    · refine Ev_mono (Ev_lin (dr_ x u) h) (fun t _ ht => ?_)
      rw [sg_pos h, ev_ad]; exact sg_pos ht
  have e2 : Ev_ (fun t => ∀ x ∈ A, ∀ y ∈ A, nn_ v p x y + t * bb_ v u x y = 0 → nn_ v p x y = 0 ∧ bb_ v u x y = 0) := by
    refine Ev_all A _ (fun x _ => ?_)
    exact Ev_all A (fun y t => nn_ v p x y + t * bb_ v u x y = 0 → nn_ v p x y = 0 ∧ bb_ v u x y = 0) (fun y _ => Ev_avoid _ _)
  obtain ⟨t, _, h1, h2⟩ := Ev_get (Ev_and e1 e2)
  refine ⟨ad_ p t u, h1, fun x hx y hy h0 => h2 x hx y hy ?_⟩
  rw [← h0]
  simp only [nn_, bb_, ev_ad]
  grind
/-- the first walls that are met on the way along v, or back -/
theorem first_hit {A : List Wl_} (p v : V3_) (hS : ∀ x ∈ A, ev_ x p = 0 → dr_ x v = 0) (hw : ∃ w ∈ A, dr_ w v ≠ 0) :
    ∃ (c t : Rat), (c = 1 ∨ c = -1) ∧ 0 < t ∧ (∃ x ∈ A, dr_ x v ≠ 0 ∧ ev_ x (ad_ p (c * t) v) = 0) ∧
      (∀ x ∈ A, ev_ x (ad_ p (c * t) v) ≠ 0 → sg_ (ev_ x (ad_ p (c * t) v)) = sg_ (ev_ x p)) := by
  have main : ∀ c : Rat, (c = 1 ∨ c = -1) → (∃ x ∈ A, c * dr_ x v ≠ 0 ∧ 0 < - ev_ x p / (c * dr_ x v)) → ∃ t : Rat, 0 < t ∧ (∃ x ∈ A, dr_ x v ≠ 0 ∧ ev_ x (ad_ p (c * t) v) = 0) ∧
      (∀ x ∈ A, ev_ x (ad_ p (c * t) v) ≠ 0 → sg_ (ev_ x (ad_ p (c * t) v)) = sg_ (ev_ x p)) := by
    intro c hc hex
    obtain ⟨x0, hx0, ⟨hd0, ht0⟩, hmin⟩ := min_ex (fun x => - ev_ x p / (c * dr_ x v)) (fun x => c * dr_ x v ≠ 0 ∧ 0 < - ev_ x p / (c * dr_ x v)) A hex
    refine ⟨- ev_ x0 p / (c * dr_ x0 v), ht0, ⟨x0, hx0, ?_, ?_⟩, ?_⟩
    · intro h; apply hd0; rw [h, Rat.mul_zero]
    · rw [ev_ad]
      have := Rat.div_mul_cancel (a := - ev_ x0 p) hd0
      grind
    · intro x hx hne
      generalize ht : - ev_ x0 p / (c * dr_ x0 v) = t at *
      rw [ev_ad] at *
      by_cases hd : c * dr_ x v = 0
      · have : c * t * dr_ x v = 0 := by
          have : t * (c * dr_ x v) = 0 := by rw [hd, Rat.mul_zero]
          grind
        rw [this, Rat.add_zero]
      · have hc2 := Rat.div_mul_cancel (a := - ev_ x p) hd
        generalize hs : - ev_ x p / (c * dr_ x v) = s at *
        generalize hdd : c * dr_ x v = d at *
        -- ev x p = - s d, and after t it is (t - s) d
        have e1 : ev_ x p = - (s * d) := by grind
        have e2 : ev_ x p + c * t * dr_ x v = (t - s) * d := by
          have : c * t * dr_ x v = t * d := by rw [← hdd]; grind
          grind
        rw [e2] at hne ⊢
        rw [e1]
        rcases (show 0 < s ∨ s = 0 ∨ s < 0 by grind) with h | h | h
        · have hle : t ≤ s := by
            have q := hmin x hx
            rw [hdd, hs] at q
            exact q ⟨hd, h⟩
          have hlt : t < s := by
            rcases (show t < s ∨ t = s by grind) with q | q
            · exact q
            · exfalso; apply hne; rw [q]; grind
          have k1 : sg_ ((s - t) * (-d)) = sg_ (-d) := sg_scale (by grind)
          have k2 : sg_ (s * (-d)) = sg_ (-d) := sg_scale h
          rw [show (t - s) * d = (s - t) * (-d) by grind, show - (s * d) = s * (-d) by grind, k1, k2]
        · exfalso
          have h0 : ev_ x p = 0 := by rw [e1, h]; grind
          apply hd
          rw [← hdd, hS x hx h0, Rat.mul_zero]
        · have k1 : sg_ ((t - s) * d) = sg_ d := sg_scale (by grind)
          have k2 : sg_ ((-s) * d) = sg_ d := sg_scale (by grind)
          rw [show - (s * d) = (-s) * d by grind, k1, k2]
  obtain ⟨w, hwA, hwd⟩ := hw
  have hev : ev_ w p ≠ 0 := fun h => hwd (hS w hwA h)
  have hq : - ev_ w p / dr_ w v ≠ 0 := by
    intro h
    have := Rat.div_mul_cancel (a := - ev_ w p) hwd
    rw [h] at this
    grind
  rcases (show 0 < - ev_ w p / dr_ w v ∨ - ev_ w p / dr_ w v < 0 by grind) with h | h
  · obtain ⟨t, h1, h2, h3⟩ := main 1 (Or.inl rfl) ⟨w, hwA, by rw [Rat.one_mul]; exact hwd, by rw [Rat.one_mul]; exact h⟩
    exact ⟨1, t, Or.inl rfl, h1, h2, h3⟩
  · have hd1 : (-1 : Rat) * dr_ w v ≠ 0 := by intro h0; apply hwd; grind
    obtain ⟨t, h1, h2, h3⟩ := main (-1) (Or.inr rfl) ⟨w, hwA, hd1, by
      have e1 := Rat.div_mul_cancel (a := - ev_ w p) hwd
      have e2 := Rat.div_mul_cancel (a := - ev_ w p) hd1
      generalize - ev_ w p / dr_ w v = a at *
      generalize - ev_ w p / (-1 * dr_ w v) = b at *
      have : (a + b) * dr_ w v = 0 := by grind
      have := (Rat.mul_eq_zero.mp this).resolve_right hwd
      grind⟩
    exact ⟨-1, t, Or.inr rfl, h1, h2, h3⟩
/-- what the class's search keeps to: corners, and moves along lines that take one from the rank -/
def Cl_ (A : List Wl_) (X : Wl_ → Prop) (Rch : V3_ → Prop) : Prop :=
  (∀ p q, RE_ A p q → Rch p → Rch q) ∧
  (∀ x y z, X x → X y → X z → dt_ x y z ≠ 0 → Rch (cor_ x y z)) ∧
  (∀ g, Rch g → ∀ x y, X x → X y → cx_ x y ≠ o3_ → (∃ w ∈ A, dr_ w (cx_ x y) ≠ 0) → rk_ (fun z => On_ A g z ∧ dr_ z (cx_ x y) = 0) + 1 = rk_ (On_ A g) →
    ∀ (c : Rat), (c = 1 ∨ c = -1) → ∀ p, (∀ z ∈ A, ev_ z g ≠ 0 → sg_ (ev_ z p) = sg_ (ev_ z g)) → (∀ z ∈ A, ev_ z g = 0 → sg_ (ev_ z p) = sg_ (c * dr_ z (cx_ x y))) → Rch p)
/-- along a line off p until walls are met: if their rank is one more than p's, p is reached with them -/
theorem climb_step {A : List Wl_} {X : Wl_ → Prop} {Rch : V3_ → Prop} (hC : Cl_ A X Rch) (p : V3_) {x y : Wl_} (hx : X x) (hy : X y) (hS : ∀ z ∈ A, ev_ z p = 0 → dr_ z (cx_ x y) = 0) (hw : ∃ w ∈ A, dr_ w (cx_ x y) ≠ 0)
    (hup : ∀ g, (∀ z ∈ A, ev_ z p = 0 → ev_ z g = 0) → (∃ z ∈ A, dr_ z (cx_ x y) ≠ 0 ∧ ev_ z g = 0) → (∀ z ∈ A, ev_ z g = 0 → dr_ z (cx_ x y) = 0 → ev_ z p = 0) → (∀ z ∈ A, ∀ z' ∈ A, ev_ z g = 0 → ev_ z' g = 0 → nn_ (cx_ x y) p z z' = 0) → rk_ (On_ A g) = rk_ (On_ A p) + 1 ∧ Rch g) : Rch p := by
  obtain ⟨c, t, hc, ht, ⟨x0, hx0, hd0, he0⟩, hsame⟩ := first_hit p (cx_ x y) hS hw
  generalize hg : ad_ p (c * t) (cx_ x y) = g at *
  have hev : ∀ z, ev_ z g = ev_ z p + c * t * dr_ z (cx_ x y) := fun z => by rw [← hg, ev_ad]
  have hct : c * t ≠ 0 := by
    intro h0
    rcases hc with rfl | rfl
    · grind
    · grind
  have hback : ∀ z ∈ A, ev_ z g = 0 → dr_ z (cx_ x y) = 0 → ev_ z p = 0 := by
    intro z _ h1 h2
    have := hev z
    rw [h1, h2, Rat.mul_zero] at this
    grind
  have hon : ∀ z ∈ A, ev_ z p = 0 → ev_ z g = 0 := by
    intro z hz h
    rw [hev z, h, hS z hz h, Rat.mul_zero]; grind
  obtain ⟨hr, hR⟩ := hup g hon ⟨x0, hx0, hd0, he0⟩ hback (by
    intro z _ z' _ h1 h2
    have a1 := hev z
    have a2 := hev z'
    rw [h1] at a1
    rw [h2] at a2
    simp only [nn_]
    have b1 : ev_ z p = - (c * t * dr_ z (cx_ x y)) := by grind
    have b2 : ev_ z' p = - (c * t * dr_ z' (cx_ x y)) := by grind
    rw [b1, b2]; grind)
  have hne : cx_ x y ≠ o3_ := by
    intro h0
    obtain ⟨w, _, hw⟩ := hw
    apply hw
    rw [h0, dr_o]
  refine hC.2.2 g hR x y hx hy hne hw ?_ (-c) (by rcases hc with rfl | rfl; exact Or.inr rfl; exact Or.inl (by grind)) p ?_ ?_
  · rw [hr]
    congr 1
    refine rk_cg (fun z => ⟨fun ⟨⟨h1, h2⟩, h3⟩ => ⟨h1, hback z h1 h2 h3⟩, fun ⟨h1, h2⟩ => ⟨⟨h1, hon z h1 h2⟩, hS z h1 h2⟩⟩)
  · intro z hz h; exact (hsame z hz h).symm
  · intro z hz h
    have a1 := hev z
    rw [h] at a1
    have b1 : ev_ z p = t * (-c * dr_ z (cx_ x y)) := by grind
    rw [b1, sg_scale ht]
/-- walls that are across two ways that aren't parallel are parallel -/
theorem two_ways {x y : Wl_} {a b : V3_} (h1 : dr_ x a = 0) (h2 : dr_ x b = 0) (h3 : dr_ y a = 0) (h4 : dr_ y b = 0)
    (hab : ¬ (a.2.1 * b.2.2 - a.2.2 * b.2.1 = 0 ∧ a.2.2 * b.1 - a.1 * b.2.2 = 0 ∧ a.1 * b.2.1 - a.2.1 * b.1 = 0)) : cx_ x y = o3_ := by
  obtain ⟨x1, x2, x3, e⟩ := x
  obtain ⟨y1, y2, y3, f⟩ := y
  obtain ⟨a1, a2, a3⟩ := a
  obtain ⟨b1, b2, b3⟩ := b
  simp only [dr_, cx_, o3_, Prod.mk.injEq] at *
  generalize (x1 : Rat) = x1 at *
  generalize (x2 : Rat) = x2 at *
  generalize (x3 : Rat) = x3 at *
  generalize (y1 : Rat) = y1 at *
  generalize (y2 : Rat) = y2 at *
  generalize (y3 : Rat) = y3 at *
  by_cases c1 : a2 * b3 - a3 * b2 = 0
  · by_cases c2 : a3 * b1 - a1 * b3 = 0
    · have c3 : a1 * b2 - a2 * b1 ≠ 0 := fun h => hab ⟨c1, c2, h⟩
      have k1 : (x2 * y3 - x3 * y2) * (a1 * b2 - a2 * b1) = 0 := by grind
      have k2 : (x3 * y1 - x1 * y3) * (a1 * b2 - a2 * b1) = 0 := by grind
      have k3 : (x1 * y2 - x2 * y1) * (a1 * b2 - a2 * b1) = 0 := by grind
      exact ⟨(Rat.mul_eq_zero.mp k1).resolve_right c3, (Rat.mul_eq_zero.mp k2).resolve_right c3, (Rat.mul_eq_zero.mp k3).resolve_right c3⟩
    · have k1 : (x2 * y3 - x3 * y2) * (a3 * b1 - a1 * b3) = 0 := by grind
      have k2 : (x3 * y1 - x1 * y3) * (a3 * b1 - a1 * b3) = 0 := by grind
      have k3 : (x1 * y2 - x2 * y1) * (a3 * b1 - a1 * b3) = 0 := by grind
      exact ⟨(Rat.mul_eq_zero.mp k1).resolve_right c2, (Rat.mul_eq_zero.mp k2).resolve_right c2, (Rat.mul_eq_zero.mp k3).resolve_right c2⟩
  · have k1 : (x2 * y3 - x3 * y2) * (a2 * b3 - a3 * b2) = 0 := by grind
    have k2 : (x3 * y1 - x1 * y3) * (a2 * b3 - a3 * b2) = 0 := by grind
    have k3 : (x1 * y2 - x2 * y1) * (a2 * b3 - a3 * b2) = 0 := by grind
    exact ⟨(Rat.mul_eq_zero.mp k1).resolve_right c1, (Rat.mul_eq_zero.mp k2).resolve_right c1, (Rat.mul_eq_zero.mp k3).resolve_right c1⟩
/-- three walls across one way have no determinant -/
theorem one_way {x y z : Wl_} {a : V3_} (ha : a ≠ o3_) (h1 : dr_ x a = 0) (h2 : dr_ y a = 0) (h3 : dr_ z a = 0) : dt_ x y z = 0 := by
  refine Classical.byContradiction (fun hd => ha ?_)
  have hc : cx_ x y ≠ o3_ := fun h0 => hd (dt_0 h0 z)
  obtain ⟨t, ht⟩ := along_cx h1 h2 hc
  rw [ht, dr_mu] at h3
  rcases Rat.mul_eq_zero.mp h3 with h | h
  · rw [ht, h]; simp only [mu_, o3_, Rat.zero_mul]
  · exact absurd h hd
theorem climb_2 {A : List Wl_} {X : Wl_ → Prop} {Rch : V3_ → Prop} (hC : Cl_ A X Rch) (hAX : ∀ x ∈ A, X x) (p : V3_) (h2 : R2_ (On_ A p)) (h3 : ¬ R3_ (On_ A p)) (hw : ∃ w ∈ A, ∃ u, (∀ z ∈ A, ev_ z p = 0 → dr_ z u = 0) ∧ dr_ w u ≠ 0)
    (ih : ∀ g, rk_ (On_ A p) < rk_ (On_ A g) → Rch g) : Rch p := by
  obtain ⟨x, y, hx, hy, hc⟩ := h2
  have hS : ∀ z ∈ A, ev_ z p = 0 → dr_ z (cx_ x y) = 0 := fun z hz h => flat_all h3 hx hy ⟨hz, h⟩ hc (dr_cx1 x y) (dr_cx2 x y)
  have hw' : ∃ w ∈ A, dr_ w (cx_ x y) ≠ 0 := by
    obtain ⟨w, hwA, u, hu, hd⟩ := hw
    obtain ⟨t, ht⟩ := along_cx (hu x hx.1 hx.2) (hu y hy.1 hy.2) hc
    refine ⟨w, hwA, fun h0 => hd ?_⟩
    rw [ht, dr_mu, h0, Rat.mul_zero]
  refine climb_step hC p (hAX x hx.1) (hAX y hy.1) hS hw' ?_
  intro g hon hex _ _
  obtain ⟨z, hz, hd, he⟩ := hex
  have r3 : R3_ (On_ A g) := ⟨x, y, z, ⟨hx.1, hon x hx.1 hx.2⟩, ⟨hy.1, hon y hy.1 hy.2⟩, ⟨hz, he⟩, hd⟩
  have e1 : rk_ (On_ A g) = 3 := rk_3 r3
  have e2 : rk_ (On_ A p) = 2 := rk_2 ⟨x, y, hx, hy, hc⟩ h3
  exact ⟨by rw [e1, e2], ih g (by rw [e1, e2]; omega)⟩
theorem climb_1 {A : List Wl_} {X : Wl_ → Prop} {Rch : V3_ → Prop} (hC : Cl_ A X Rch) (hAX : ∀ x ∈ A, X x) (hX : R3_ X) (hn : ∀ x ∈ A, nv_ x ≠ o3_) (p : V3_) (h1 : ∃ x, On_ A p x) (h2 : ¬ R2_ (On_ A p)) (hw : ∃ w ∈ A, ∃ u, (∀ z ∈ A, ev_ z p = 0 → dr_ z u = 0) ∧ dr_ w u ≠ 0)
    (ih : ∀ g, rk_ (On_ A p) < rk_ (On_ A g) → Rch g) : Rch p := by
  obtain ⟨x, hx⟩ := h1
  obtain ⟨w, hwA, u0, hu0, hd0⟩ := hw
  have hcw : cx_ x w ≠ o3_ := by
    intro h0
    apply hd0
    -- w parallel to x
    have : ¬ R2_ (fun z => z = x ∨ z = w) := by
      rintro ⟨a, b, ha, hb, hab⟩
      apply hab
      rcases ha with rfl | rfl <;> rcases hb with rfl | rfl
      · simp only [cx_, o3_, Prod.mk.injEq]; grind
      · exact h0
      · simp only [cx_, o3_, Prod.mk.injEq] at h0 ⊢; grind
      · simp only [cx_, o3_, Prod.mk.injEq]; grind
    exact par_all this (Or.inl rfl) (Or.inr rfl) (hn x hx.1) (hu0 x hx.1 hx.2)
  obtain ⟨z, hz, hdz⟩ := third_in hX hcw
  have hS : ∀ (u : V3_), dr_ x u = 0 → ∀ y ∈ A, ev_ y p = 0 → dr_ y u = 0 := fun u hu y hy h => par_all h2 hx ⟨hy, h⟩ (hn x hx.1) hu
  obtain ⟨p1, hp1, hp2⟩ := aside (A := A) p (cx_ x z) (cx_ x w) (hS _ (dr_cx1 x w))
  have hop : ∀ y, On_ A p1 y ↔ On_ A p y := On_cg hp1
  have e0 : rk_ (On_ A p1) = rk_ (On_ A p) := rk_cg hop
  refine hC.1 p1 p hp1 ?_
  have hdw : dr_ w (cx_ x z) ≠ 0 := by
    intro h0; apply hdz
    have := dt_rot2 x w z
    rw [h0] at this; grind
  refine climb_step hC p1 (hAX x hx.1) hz (fun y hy h => hS _ (dr_cx1 x z) y hy ((hop y).mp ⟨hy, h⟩).2) ⟨w, hwA, hdw⟩ ?_
  intro g hon hex hback hnn
  obtain ⟨y, hy, hdy, hey⟩ := hex
  have hxg : On_ A g x := ⟨hx.1, hon x hx.1 ((hop x).mpr hx).2⟩
  have hxy : cx_ x y ≠ o3_ := by
    intro h0
    apply hdy
    have e := dt_rot2 x y z
    rw [e, dt_0 h0 z]; rfl
  have r2 : R2_ (On_ A g) := ⟨x, y, hxg, ⟨hy, hey⟩, hxy⟩
  -- all walls met are across one way
  have hway : ∀ y' ∈ A, ev_ y' g = 0 → dr_ y' (ad_ (mu_ (dr_ y (cx_ x z)) (cx_ x w)) (- dr_ y (cx_ x w)) (cx_ x z)) = 0 := by
    intro y' hy' he'
    have hb := (hp2 y' hy' y hy (hnn y' hy' y hy he' hey)).2
    rw [dr_ad, dr_mu]
    simp only [bb_] at hb
    grind
  have hne : ad_ (mu_ (dr_ y (cx_ x z)) (cx_ x w)) (- dr_ y (cx_ x w)) (cx_ x z) ≠ o3_ := by
    intro h0
    have k : dr_ z (ad_ (mu_ (dr_ y (cx_ x z)) (cx_ x w)) (- dr_ y (cx_ x w)) (cx_ x z)) = 0 := by rw [h0, dr_o]
    rw [dr_ad, dr_mu, dr_cx2, Rat.mul_zero, Rat.add_zero] at k
    rcases Rat.mul_eq_zero.mp k with h | h
    · exact hdy h
    · exact hdz h
  have r3 : ¬ R3_ (On_ A g) := by
    rintro ⟨a, b, c, ha, hb, hc, hd⟩
    exact hd (one_way hne (hway a ha.1 ha.2) (hway b hb.1 hb.2) (hway c hc.1 hc.2))
  have e1 : rk_ (On_ A g) = 2 := rk_2 r2 r3
  have e2 : rk_ (On_ A p) = 1 := rk_1 ⟨x, hx⟩ h2 (fun h => h2 (R3_R2 h))
  exact ⟨by rw [e1, e0, e2], ih g (by rw [e1, e2]; omega)⟩
theorem climb_0 {A : List Wl_} {X : Wl_ → Prop} {Rch : V3_ → Prop} (hC : Cl_ A X Rch) (hX : R3_ X) (hn : ∀ x ∈ A, nv_ x ≠ o3_) (p : V3_) (h1 : ¬ ∃ x, On_ A p x) (hw : ∃ w, w ∈ A)
    (ih : ∀ g, rk_ (On_ A p) < rk_ (On_ A g) → Rch g) : Rch p := by
  obtain ⟨w, hwA⟩ := hw
  obtain ⟨y, z, hy, hz, hd⟩ := swap_in hX (hn w hwA)
  have hS : ∀ (q u : V3_), RE_ A q p → ∀ y ∈ A, ev_ y q = 0 → dr_ y u = 0 := fun q u hq y hy h => absurd ⟨y, (On_cg hq y).mp ⟨hy, h⟩⟩ h1
  obtain ⟨p1, hp1, hq1⟩ := aside (A := A) p (cx_ y z) (cx_ w z) (hS p _ (RE_refl A p))
  obtain ⟨p2, hp2, hq2⟩ := aside (A := A) p1 (cx_ y z) (cx_ w y) (hS p1 _ hp1)
  have hpp : RE_ A p2 p := RE_trans hp2 hp1
  have hop : ∀ y, On_ A p2 y ↔ On_ A p y := On_cg hpp
  have e0 : rk_ (On_ A p2) = rk_ (On_ A p) := rk_cg hop
  refine hC.1 p2 p hpp ?_
  have hdw : dr_ w (cx_ y z) ≠ 0 := by rw [dt_rot]; exact hd
  refine climb_step hC p2 hy hz (hS p2 _ hpp) ⟨w, hwA, hdw⟩ ?_
  intro g hon hex hback hnn
  obtain ⟨x, hx, hdx, hex⟩ := hex
  have hway1 : ∀ y' ∈ A, ev_ y' g = 0 → dr_ y' (ad_ (mu_ (dr_ x (cx_ y z)) (cx_ w z)) (- dr_ x (cx_ w z)) (cx_ y z)) = 0 := by
    intro y' hy' he'
    have hb := (hq1 y' hy' x hx (hq2 y' hy' x hx (hnn y' hy' x hx he' hex)).1).2
    rw [dr_ad, dr_mu]
    simp only [bb_] at hb
    grind
  have hway2 : ∀ y' ∈ A, ev_ y' g = 0 → dr_ y' (ad_ (mu_ (dr_ x (cx_ y z)) (cx_ w y)) (- dr_ x (cx_ w y)) (cx_ y z)) = 0 := by
    intro y' hy' he'
    have hb := (hq2 y' hy' x hx (hnn y' hy' x hx he' hex)).2
    rw [dr_ad, dr_mu]
    simp only [bb_] at hb
    grind
  have r2 : ¬ R2_ (On_ A g) := by
    rintro ⟨a, b, ha, hb, hab⟩
    refine hab (two_ways (hway1 a ha.1 ha.2) (hway2 a ha.1 ha.2) (hway1 b hb.1 hb.2) (hway2 b hb.1 hb.2) ?_)
    intro hpar
    -- the two ways aren't parallel: z is along the first alone
    have k1 : dr_ z (ad_ (mu_ (dr_ x (cx_ y z)) (cx_ w z)) (- dr_ x (cx_ w z)) (cx_ y z)) = 0 := by rw [dr_ad, dr_mu, dr_cx2, dr_cx2]; grind
    have k2 : dr_ z (ad_ (mu_ (dr_ x (cx_ y z)) (cx_ w y)) (- dr_ x (cx_ w y)) (cx_ y z)) ≠ 0 := by
      rw [dr_ad, dr_mu, dr_cx2, Rat.mul_zero, Rat.add_zero]
      intro h0
      rcases Rat.mul_eq_zero.mp h0 with h | h
      · exact hdx h
      · exact hd h
    have k3 : dr_ y (ad_ (mu_ (dr_ x (cx_ y z)) (cx_ w z)) (- dr_ x (cx_ w z)) (cx_ y z)) ≠ 0 := by
      rw [dr_ad, dr_mu, dr_cx1, Rat.mul_zero, Rat.add_zero]
      intro h0
      rcases Rat.mul_eq_zero.mp h0 with h | h
      · exact hdx h
      · have := dt_rot2 w y z
        rw [h] at this
        apply hd; grind
    have k4 : dr_ y (ad_ (mu_ (dr_ x (cx_ y z)) (cx_ w y)) (- dr_ x (cx_ w y)) (cx_ y z)) = 0 := by rw [dr_ad, dr_mu, dr_cx2, dr_cx1]; grind
    generalize ad_ (mu_ (dr_ x (cx_ y z)) (cx_ w z)) (- dr_ x (cx_ w z)) (cx_ y z) = m1 at *
    generalize ad_ (mu_ (dr_ x (cx_ y z)) (cx_ w y)) (- dr_ x (cx_ w y)) (cx_ y z) = m2 at *
    have : dr_ y m1 * dr_ z m2 = 0 := by
      obtain ⟨q1, q2, q3⟩ := hpar
      have : dr_ y m1 * dr_ z m2 - dr_ z m1 * dr_ y m2 = 0 := by
        simp only [dr_]; grind
      rw [k1, k4] at this
      grind
    rcases Rat.mul_eq_zero.mp this with h | h
    · exact k3 h
    · exact k2 h
  have e1 : rk_ (On_ A g) = 1 := rk_1 ⟨x, hx, hex⟩ r2 (fun h => r2 (R3_R2 h))
  have e2 : rk_ (On_ A p) = 0 := rk_0 h1 (fun h => h1 (R2_ex h)) (fun h => h1 (R2_ex (R3_R2 h)))
  exact ⟨by rw [e1, e0, e2], ih g (by rw [e1, e2]; omega)⟩
/-- where nothing leads further, a corner tells the face -/
theorem climb_base {A : List Wl_} {X : Wl_ → Prop} {Rch : V3_ → Prop} (hC : Cl_ A X Rch) (hAX : ∀ x ∈ A, X x) (hX : R3_ X) (hn : ∀ x ∈ A, nv_ x ≠ o3_) (p : V3_) (hw : ¬ ∃ w ∈ A, ∃ u, (∀ z ∈ A, ev_ z p = 0 → dr_ z u = 0) ∧ dr_ w u ≠ 0) : Rch p := by
  have key : ∀ x y z, X x → X y → X z → dt_ x y z ≠ 0 → (∀ q, ev_ x q = 0 → ev_ y q = 0 → ev_ z q = 0 → ∀ s ∈ A, ev_ s p = 0 → dr_ s (sb_ q p) = 0) → Rch p := by
    intro x y z hx hy hz hd hq
    obtain ⟨c1, c2, c3⟩ := cor_on x y z hd
    refine hC.1 (cor_ x y z) p ?_ (hC.2.1 x y z hx hy hz hd)
    intro w hwA
    have : dr_ w (sb_ (cor_ x y z) p) = 0 := Classical.byContradiction (fun h => hw ⟨w, hwA, _, hq _ c1 c2 c3, h⟩)
    rw [dr_sb] at this
    congr 1; grind
  by_cases h3 : R3_ (On_ A p)
  · obtain ⟨x, y, z, hx, hy, hz, hd⟩ := h3
    refine key x y z (hAX x hx.1) (hAX y hy.1) (hAX z hz.1) hd ?_
    intro q q1 q2 q3 s _ _
    have hc : cx_ x y ≠ o3_ := fun h0 => hd (dt_0 h0 z)
    obtain ⟨t, ht⟩ := along_cx (u := sb_ q p) (by rw [dr_sb, q1, hx.2]; grind) (by rw [dr_sb, q2, hy.2]; grind) hc
    have hz0 : dr_ z (sb_ q p) = 0 := by rw [dr_sb, q3, hz.2]; grind
    rw [ht, dr_mu] at hz0
    rcases Rat.mul_eq_zero.mp hz0 with h | h
    · rw [ht, h, dr_mu, Rat.zero_mul]
    · exact absurd h hd
  · by_cases h2 : R2_ (On_ A p)
    · obtain ⟨x, y, hx, hy, hc⟩ := h2
      obtain ⟨z, hz, hd⟩ := third_in hX hc
      refine key x y z (hAX x hx.1) (hAX y hy.1) hz hd ?_
      intro q q1 q2 _ s hs he
      exact flat_all h3 hx hy ⟨hs, he⟩ hc (by rw [dr_sb, q1, hx.2]; grind) (by rw [dr_sb, q2, hy.2]; grind)
    · by_cases h1 : ∃ x, On_ A p x
      · obtain ⟨x, hx⟩ := h1
        obtain ⟨y, z, hy, hz, hd⟩ := swap_in hX (hn x hx.1)
        refine key x y z (hAX x hx.1) hy hz hd ?_
        intro q q1 _ _ s hs he
        exact par_all h2 hx ⟨hs, he⟩ (hn x hx.1) (by rw [dr_sb, q1, hx.2]; grind)
      · obtain ⟨x, y, z, hx, hy, hz, hd⟩ := hX
        refine key x y z hx hy hz hd ?_
        intro q _ _ _ s hs he
        exact absurd ⟨s, hs, he⟩ h1
/-- EVERY FACE IS REACHED -/
theorem climb_all {A : List Wl_} {X : Wl_ → Prop} {Rch : V3_ → Prop} (hC : Cl_ A X Rch) (hAX : ∀ x ∈ A, X x) (hX : R3_ X) (hn : ∀ x ∈ A, nv_ x ≠ o3_) : ∀ p, Rch p := by
  have main : ∀ (n : Nat) (p : V3_), 3 - rk_ (On_ A p) < n → Rch p := by
    intro n
    induction n with
    | zero => intro p h; omega
    | succ n ih =>
      intro p h
      have ih' : ∀ g, rk_ (On_ A p) < rk_ (On_ A g) → Rch g := by
        intro g hg
        have := rk_le3 (On_ A g)
        exact ih g (by omega)
      by_cases hw : ∃ w ∈ A, ∃ u, (∀ z ∈ A, ev_ z p = 0 → dr_ z u = 0) ∧ dr_ w u ≠ 0
      · by_cases h3 : R3_ (On_ A p)
        · exfalso
          obtain ⟨x, y, z, hx, hy, hz, hd⟩ := h3
          obtain ⟨w, _, u, hu, hwu⟩ := hw
          apply hwu
          have hc : cx_ x y ≠ o3_ := fun h0 => hd (dt_0 h0 z)
          obtain ⟨t, ht⟩ := along_cx (hu x hx.1 hx.2) (hu y hy.1 hy.2) hc
          have hz0 := hu z hz.1 hz.2
          rw [ht, dr_mu] at hz0
          rcases Rat.mul_eq_zero.mp hz0 with h | h
          · rw [ht, h, dr_mu, Rat.zero_mul]
          · exact absurd h hd
        · by_cases h2 : R2_ (On_ A p)
          · exact climb_2 hC hAX p h2 h3 hw ih'
          · by_cases h1 : ∃ x, On_ A p x
            · exact climb_1 hC hAX hX hn p h1 h2 hw ih'
            · obtain ⟨w, hwA, _⟩ := hw
              exact climb_0 hC hX hn p h1 ⟨w, hwA⟩ ih'
      · exact climb_base hC hAX hX hn p hw
  intro p
  exact main 4 p (by omega)
end
section
/-! Fourier and Motzkin: one number after the other is taken out -/
abbrev Rw_ : Type := Wl_ × Bool
def sat_ (r : Rw_) (p : V3_) : Prop := if r.2 = true then ev_ r.1 p = 0 else ev_ r.1 p < 0
def Sat_ (rows : List Rw_) : Prop := ∃ p, ∀ r ∈ rows, sat_ r p
def cf_ (i : Nat) (w : Wl_) : Int := if i = 0 then w.1 else if i = 1 then w.2.1 else w.2.2.1
/-- s times, and o times -/
def lc_ (a : Int) (s : Wl_) (b : Int) (o : Wl_) : Wl_ := (s.1 * a + o.1 * b, s.2.1 * a + o.2.1 * b, s.2.2.1 * a + o.2.2.1 * b, s.2.2.2 * a + o.2.2.2 * b)
theorem ev_lc (a : Int) (s : Wl_) (b : Int) (o : Wl_) (p : V3_) : ev_ (lc_ a s b o) p = a * ev_ s p + b * ev_ o p := by
  simp only [ev_, dr_, lc_, Rat.intCast_add, Rat.intCast_mul]; grind
theorem cf_lc (i : Nat) (a : Int) (s : Wl_) (b : Int) (o : Wl_) : cf_ i (lc_ a s b o) = cf_ i s * a + cf_ i o * b := by
  unfold cf_ lc_
  split
  · rfl
  · split <;> rfl
/-- the way of one number alone -/
def ax_ (i : Nat) : V3_ := if i = 0 then (1, 0, 0) else if i = 1 then (0, 1, 0) else (0, 0, 1)
theorem dr_ax (i : Nat) (w : Wl_) : dr_ w (ax_ i) = (cf_ i w : Rat) := by
  unfold ax_ cf_ dr_
  split
  · simp only []; grind
  · split <;> (simp only []; grind)
theorem sat_t {w : Wl_} {p : V3_} : sat_ (w, true) p ↔ ev_ w p = 0 := by simp [sat_]
theorem sat_f {w : Wl_} {p : V3_} : sat_ (w, false) p ↔ ev_ w p < 0 := by simp [sat_]
theorem rI_pos {a : Int} : 0 < (a : Rat) ↔ 0 < a := by
  have := Rat.intCast_lt_intCast (a := 0) (b := a)
  simpa using this
theorem rI_neg {a : Int} : (a : Rat) < 0 ↔ a < 0 := by
  have := Rat.intCast_lt_intCast (a := a) (b := 0)
  simpa using this
theorem rI_zero {a : Int} : (a : Rat) = 0 ↔ a = 0 := by
  constructor
  · intro h
    rcases Int.lt_trichotomy a 0 with q | q | q
    · have := rI_neg.mpr q; grind
    · exact q
    · have := rI_pos.mpr q; grind
  · intro h; subst h; rfl
/-- a row with an even one's number taken out: m times s (m above 0), and k times the pivot -/
theorem fm_piv {i : Nat} {rows rows' : List Rw_} {P : Wl_} (hP : (P, true) ∈ rows) (hc : cf_ i P ≠ 0)
    (h1 : ∀ r ∈ rows', ∃ s ∈ rows, ∃ a b : Int, 0 < a ∧ r = (lc_ a s.1 b P, s.2))
    (h2 : ∀ s ∈ rows, s = (P, true) ∨ ∃ a b : Int, 0 < a ∧ (lc_ a s.1 b P, s.2) ∈ rows' ∧ cf_ i (lc_ a s.1 b P) = 0) : Sat_ rows ↔ Sat_ rows' := by
  constructor
  · rintro ⟨p, hp⟩
    refine ⟨p, fun r hr => ?_⟩
    obtain ⟨s, hs, a, b, ha, rfl⟩ := h1 r hr
    have e1 := hp s hs
    have e2 := sat_t.mp (hp _ hP)
    have ha' : (0 : Rat) < a := rI_pos.mpr ha
    obtain ⟨s1, s2⟩ := s
    cases s2 with
    | true =>
      rw [sat_t] at e1 ⊢
      rw [ev_lc, e1, e2]; grind
    | false =>
      rw [sat_f] at e1 ⊢
      rw [ev_lc, e2]
      have := Rat.mul_pos ha' (show 0 < - ev_ s1 p by grind)
      grind
  · rintro ⟨p, hp⟩
    have hcr : (cf_ i P : Rat) ≠ 0 := fun h => hc (rI_zero.mp h)
    refine ⟨ad_ p (- ev_ P p / (cf_ i P : Rat)) (ax_ i), fun s hs => ?_⟩
    have hP0 : ev_ P (ad_ p (- ev_ P p / (cf_ i P : Rat)) (ax_ i)) = 0 := by
      rw [ev_ad, dr_ax, Rat.div_mul_cancel hcr]; grind
    rcases h2 s hs with rfl | ⟨a, b, ha, hr, h0⟩
    · exact sat_t.mpr hP0
    · have e1 := hp _ hr
      have ha' : (0 : Rat) < a := rI_pos.mpr ha
      have e3 : ev_ (lc_ a s.1 b P) p = a * ev_ s.1 (ad_ p (- ev_ P p / (cf_ i P : Rat)) (ax_ i)) := by
        have e4 := ev_lc a s.1 b P (ad_ p (- ev_ P p / (cf_ i P : Rat)) (ax_ i))
        rw [hP0, ev_ad, dr_ax, h0] at e4
        grind
      obtain ⟨s1, s2⟩ := s
      cases s2 with
      | true =>
        rw [sat_t] at e1 ⊢
        rw [e3] at e1
        rcases Rat.mul_eq_zero.mp e1 with h | h
        · grind
        · exact h
      | false =>
        rw [sat_f] at e1 ⊢
        rw [e3] at e1
        exact (Rat.mul_neg_iff_of_pos_left ha').mp e1
theorem between {α : Type} (L U : List α) (l u : α → Rat) (h : ∀ x ∈ L, ∀ y ∈ U, l x < u y) : ∃ t : Rat, (∀ x ∈ L, l x < t) ∧ ∀ y ∈ U, t < u y := by
  by_cases hU : ∃ y ∈ U, True
  · obtain ⟨y, hy, -, hmin⟩ := min_ex u (fun _ => True) U hU
    by_cases hL : ∃ x ∈ L, True
    · obtain ⟨x, hx, -, hmax⟩ := min_ex (fun x => - l x) (fun _ => True) L hL
      have := h x hx y hy
      refine ⟨(l x + u y) / 2, fun x' hx' => ?_, fun y' hy' => ?_⟩
      · have := hmax x' hx' trivial; grind
      · have := hmin y' hy' trivial; grind
    · refine ⟨u y - 1, fun x hx => absurd ⟨x, hx, trivial⟩ hL, fun y' hy' => ?_⟩
      have := hmin y' hy' trivial; grind
  · by_cases hL : ∃ x ∈ L, True
    · obtain ⟨x, hx, -, hmax⟩ := min_ex (fun x => - l x) (fun _ => True) L hL
      refine ⟨l x + 1, fun x' hx' => ?_, fun y hy => absurd ⟨y, hy, trivial⟩ hU⟩
      have := hmax x' hx' trivial; grind
    · exact ⟨0, fun x hx => absurd ⟨x, hx, trivial⟩ hL, fun y hy => absurd ⟨y, hy, trivial⟩ hU⟩
theorem fm_alg {es eo cs co us lo : Rat} (e : -co * es + cs * eo < 0) (d1 : us * cs = -es) (d2 : lo * co = -eo) (a1 : 0 < cs) (a2 : co < 0) : lo < us := by
  have k0 : (cs * (-co)) * (us - lo) = -(-co * es + cs * eo) := by grind
  have k : 0 < (cs * (-co)) * (us - lo) := by rw [k0]; grind
  have hpos := Rat.mul_pos a1 (show 0 < -co by grind)
  have := (Rat.mul_pos_iff_of_pos_left hpos).mp k
  grind
theorem fm_alg2 {es co lo t : Rat} (d1 : lo * co = -es) (l : lo < t) (a2 : co < 0) : es + t * co < 0 := by
  have := Rat.mul_pos (show 0 < t - lo by grind) (show 0 < -co by grind)
  grind
theorem fm_alg3 {es cs up t : Rat} (d1 : up * cs = -es) (l : t < up) (a2 : 0 < cs) : es + t * cs < 0 := by
  have := Rat.mul_pos (show 0 < up - t by grind) a2
  grind
theorem fm_alg4 {a es b eo : Rat} (h1 : 0 < a) (h2 : 0 < b) (h3 : es < 0) (h4 : eo < 0) : a * es + b * eo < 0 := by
  have b1 := Rat.mul_pos h1 (show 0 < - es by grind)
  have b2 := Rat.mul_pos h2 (show 0 < - eo by grind)
  grind
theorem fm_non {i : Nat} {rows rows' : List Rw_} (hno : ∀ s ∈ rows, s.2 = true → cf_ i s.1 = 0)
    (h1 : ∀ r ∈ rows', r ∈ rows ∨ ∃ s ∈ rows, ∃ o ∈ rows, 0 < cf_ i s.1 ∧ cf_ i o.1 < 0 ∧ r = (lc_ (- cf_ i o.1) s.1 (cf_ i s.1) o.1, false))
    (h2 : ∀ s ∈ rows, cf_ i s.1 = 0 → s ∈ rows')
    (h3 : ∀ s ∈ rows, ∀ o ∈ rows, 0 < cf_ i s.1 → cf_ i o.1 < 0 → (lc_ (- cf_ i o.1) s.1 (cf_ i s.1) o.1, false) ∈ rows') : Sat_ rows ↔ Sat_ rows' := by
  have strict : ∀ s ∈ rows, cf_ i s.1 ≠ 0 → s = (s.1, false) := by
    intro s hs hc
    obtain ⟨s1, s2⟩ := s
    cases s2 with
    | true => exact absurd (hno _ hs rfl) hc
    | false => rfl
  constructor
  · rintro ⟨p, hp⟩
    refine ⟨p, fun r hr => ?_⟩
    rcases h1 r hr with h | ⟨s, hs, o, ho, c1, c2, rfl⟩
    · exact hp r h
    · have es := strict s hs (by omega)
      have eo := strict o ho (by omega)
      have e1 := hp s hs
      have e2 := hp o ho
      rw [es, sat_f] at e1
      rw [eo, sat_f] at e2
      rw [sat_f, ev_lc]
      have a1 : (0 : Rat) < ((- cf_ i o.1 : Int) : Rat) := rI_pos.mpr (by omega)
      have a2 : (0 : Rat) < (cf_ i s.1 : Rat) := rI_pos.mpr c1
      exact fm_alg4 a1 a2 e1 e2
  · rintro ⟨p, hp⟩
    obtain ⟨t, ht1, ht2⟩ := between (rows.filter (fun o => decide (cf_ i o.1 < 0))) (rows.filter (fun s => decide (0 < cf_ i s.1))) (fun o => - ev_ o.1 p / (cf_ i o.1 : Rat)) (fun s => - ev_ s.1 p / (cf_ i s.1 : Rat)) (by
      intro o ho s hs
      rw [List.mem_filter] at ho hs
      have c2 : cf_ i o.1 < 0 := of_decide_eq_true ho.2
      have c1 : 0 < cf_ i s.1 := of_decide_eq_true hs.2
      have e := sat_f.mp (hp _ (h3 s hs.1 o ho.1 c1 c2))
      rw [ev_lc, Rat.intCast_neg] at e
      have a1 : (0 : Rat) < (cf_ i s.1 : Rat) := rI_pos.mpr c1
      have a2 : (cf_ i o.1 : Rat) < 0 := rI_neg.mpr c2
      have d1 := Rat.div_mul_cancel (a := - ev_ s.1 p) (b := (cf_ i s.1 : Rat)) (fun h => by rw [h] at a1; exact Rat.lt_irrefl a1)
      have d2 := Rat.div_mul_cancel (a := - ev_ o.1 p) (b := (cf_ i o.1 : Rat)) (fun h => by rw [h] at a2; exact Rat.lt_irrefl a2)
      exact fm_alg e d1 d2 a1 a2)
    refine ⟨ad_ p t (ax_ i), fun s hs => ?_⟩
    by_cases hc : cf_ i s.1 = 0
    · have e := hp s (h2 s hs hc)
      unfold sat_ at e ⊢
      rw [ev_ad, dr_ax, hc]
      have : ev_ s.1 p + t * ((0 : Int) : Rat) = ev_ s.1 p := by
        have : ((0 : Int) : Rat) = 0 := rfl
        rw [this, Rat.mul_zero, Rat.add_zero]
      rw [this]; exact e
    · rw [strict s hs hc, sat_f, ev_ad, dr_ax]
      have hcr : (cf_ i s.1 : Rat) ≠ 0 := fun h => hc (rI_zero.mp h)
      have d1 := Rat.div_mul_cancel (a := - ev_ s.1 p) (b := (cf_ i s.1 : Rat)) hcr
      rcases Int.lt_or_gt_of_ne hc with q | q
      · have l := ht1 s (List.mem_filter.mpr ⟨hs, decide_eq_true q⟩)
        have a2 : (cf_ i s.1 : Rat) < 0 := rI_neg.mpr q
        exact fm_alg2 d1 l a2
      · have l := ht2 s (List.mem_filter.mpr ⟨hs, decide_eq_true q⟩)
        have a2 : (0 : Rat) < (cf_ i s.1 : Rat) := rI_pos.mpr q
        exact fm_alg3 d1 l a2
/-- rows without numbers: they hold everywhere or nowhere -/
theorem sat_flat {rows : List Rw_} (h : ∀ r ∈ rows, cf_ 0 r.1 = 0 ∧ cf_ 1 r.1 = 0 ∧ cf_ 2 r.1 = 0) : Sat_ rows ↔ ∀ r ∈ rows, if r.2 = true then r.1.2.2.2 = 0 else 0 < r.1.2.2.2 := by
  have key : ∀ r ∈ rows, ∀ p, sat_ r p ↔ (if r.2 = true then r.1.2.2.2 = 0 else 0 < r.1.2.2.2) := by
    intro r hr p
    obtain ⟨h0, h1, h2⟩ := h r hr
    have e : ev_ r.1 p = - (r.1.2.2.2 : Rat) := by
      simp only [cf_] at h0 h1 h2
      simp only [ev_, dr_]
      simp at h0 h1 h2
      rw [h0, h1, h2]
      have : ((0 : Int) : Rat) = 0 := rfl
      rw [this]; grind
    unfold sat_
    rw [e]
    by_cases hb : r.2 = true
    · rw [if_pos hb, if_pos hb]
      constructor
      · intro q; exact rI_zero.mp (by grind)
      · intro q; rw [q]; rfl
    · rw [if_neg hb, if_neg hb]
      constructor
      · intro q; exact rI_pos.mp (by grind)
      · intro q; have := rI_pos.mpr q; grind
  exact ⟨fun ⟨p, hp⟩ r hr => (key r hr p).mp (hp r hr), fun hr => ⟨o3_, fun r h => (key r h o3_).mpr (hr r h)⟩⟩
end
section
-- X5_onMask
def fX5_onMask (p1 : Int32) : Option Int32 :=
  some (p1 &&& (255 : Int32))
set_option maxHeartbeats 8000000 in
set_option maxRecDepth 100000 in
theorem kX5_onMask (l : Launch) (D : va_G) (cI cJ cZ : ClassId) (tP sz : Nat)  (p1 : Int32) (uu : Int32) (h : fX5_onMask p1 = some uu) : Met l yX5_onMask wsX5_onMask ({ frames := 0, cells := 0, slots := 0, locals := 0 }) (cPre D cI cJ cZ tP [] sz [.int p1]) (cQi D (va_A [] sz) [] uu) 0 0 (va_A [] sz) := by
  refine Met.ofW (cc := cX5_onMask) (maxL := 1) (ret := (some .int)) (by decide) rfl ?_
  intro p e s m args below meth c s₁ B hml hv
  obtain ⟨rfl, hsz, hP, hK, hN, hD0, hZ⟩ := hv
  have hx := B.exec
  have hb := B.bytes
  have hr := B.returns
  have hts := atoms_spec (ws := wsX5_onMask) B.pre
  have hown : s.vm.findClass RX5 = some m.cls := findClass_of_methodNamed B.named
  have hlocks := B.notSynchronized
  subst hsz
  have hD := hD0.self (sz := s.heap.size)
  generalize hAe : va_A [] s.heap.size = A at hD hZ ⊢
  have hA : ∀ q : Nat, s.heap.size ≤ q → A q := fun q h => by rw [← hAe]; exact Or.inr h
  have hS : va_S A s.heap s.heap [] := va_S.rf
  have hl := lv_entry ([.int p1]) (n := 1) (Nat.le_of_ble_eq_true rfl)
  rw [lg_entry_eq]
  generalize (lg_sl ([.int p1]) ++ List.replicate (1 - (lg_sl ([.int p1])).length) Slot.unset).toArray = ls at hl ⊢
  have hl : lv_has ls 1 [(0, .int p1)] := hl
  unfold fX5_onMask at h
  refine lv_iload_n hx hb dX5_onMask_0 rfl (lv_at hl 0 rfl) ?_
  refine lv_sipush (v := (255 : Int32)) hx hb dX5_onMask_1 (by decide) ?_
  refine lv_iand hx hb dX5_onMask_4 ?_
  obtain rfl := Option.some.inj h
  exact W.iret (v := (p1 &&& (255 : Int32))) hx hb hr (fun t ht hW => ⟨⟨(p1 &&& (255 : Int32)), (), rfl, rfl, by rw [ht]; exact hP, hD⟩, hS.F ht⟩) hS.2.2 dX5_onMask_5


-- X5_aboveMask
def fX5_aboveMask (p1 : Int32) : Option Int32 :=
  some ((p1 >>> ((8 : Int32) &&& 31)) &&& (255 : Int32))
set_option maxHeartbeats 8000000 in
set_option maxRecDepth 100000 in
theorem kX5_aboveMask (l : Launch) (D : va_G) (cI cJ cZ : ClassId) (tP sz : Nat)  (p1 : Int32) (uu : Int32) (h : fX5_aboveMask p1 = some uu) : Met l yX5_aboveMask wsX5_aboveMask ({ frames := 0, cells := 0, slots := 0, locals := 0 }) (cPre D cI cJ cZ tP [] sz [.int p1]) (cQi D (va_A [] sz) [] uu) 0 0 (va_A [] sz) := by
  refine Met.ofW (cc := cX5_aboveMask) (maxL := 1) (ret := (some .int)) (by decide) rfl ?_
  intro p e s m args below meth c s₁ B hml hv
  obtain ⟨rfl, hsz, hP, hK, hN, hD0, hZ⟩ := hv
  have hx := B.exec
  have hb := B.bytes
  have hr := B.returns
  have hts := atoms_spec (ws := wsX5_aboveMask) B.pre
  have hown : s.vm.findClass RX5 = some m.cls := findClass_of_methodNamed B.named
  have hlocks := B.notSynchronized
  subst hsz
  have hD := hD0.self (sz := s.heap.size)
  generalize hAe : va_A [] s.heap.size = A at hD hZ ⊢
  have hA : ∀ q : Nat, s.heap.size ≤ q → A q := fun q h => by rw [← hAe]; exact Or.inr h
  have hS : va_S A s.heap s.heap [] := va_S.rf
  have hl := lv_entry ([.int p1]) (n := 1) (Nat.le_of_ble_eq_true rfl)
  rw [lg_entry_eq]
  generalize (lg_sl ([.int p1]) ++ List.replicate (1 - (lg_sl ([.int p1])).length) Slot.unset).toArray = ls at hl ⊢
  have hl : lv_has ls 1 [(0, .int p1)] := hl
  unfold fX5_aboveMask at h
  refine lv_iload_n hx hb dX5_aboveMask_0 rfl (lv_at hl 0 rfl) ?_
  refine lv_bipush (v := (8 : Int32)) hx hb dX5_aboveMask_1 (by decide) ?_
  refine lv_ishr hx hb dX5_aboveMask_3 ?_
  refine lv_sipush (v := (255 : Int32)) hx hb dX5_aboveMask_4 (by decide) ?_
  refine lv_iand hx hb dX5_aboveMask_7 ?_
  obtain rfl := Option.some.inj h
  exact W.iret (v := ((p1 >>> ((8 : Int32) &&& 31)) &&& (255 : Int32))) hx hb hr (fun t ht hW => ⟨⟨((p1 >>> ((8 : Int32) &&& 31)) &&& (255 : Int32)), (), rfl, rfl, by rw [ht]; exact hP, hD⟩, hS.F ht⟩) hS.2.2 dX5_aboveMask_8


-- X5_isTooFar
def fX5_isTooFar (p1 : Int32) : Option Int32 :=
  (if (1000000 : Int32) < p1 then some (1 : Int32) else (if (-1000000 : Int32) ≤ p1 then some (0 : Int32) else some (1 : Int32)))
theorem wmX5_isTooFar_0 : (.constant RX5 166 (1000000 : Int32) : Cond) ∈ wsX5_isTooFar := by decide +kernel
theorem wmX5_isTooFar_1 : (.constant RX5 167 (-1000000 : Int32) : Cond) ∈ wsX5_isTooFar := by decide +kernel
set_option maxHeartbeats 8000000 in
set_option maxRecDepth 100000 in
theorem kX5_isTooFar (l : Launch) (D : va_G) (cI cJ cZ : ClassId) (tP sz : Nat)  (p1 : Int32) (uu : Int32) (h : fX5_isTooFar p1 = some uu) : Met l yX5_isTooFar wsX5_isTooFar ({ frames := 0, cells := 0, slots := 0, locals := 0 }) (cPre D cI cJ cZ tP [] sz [.int p1]) (cQi D (va_A [] sz) [] uu) 0 0 (va_A [] sz) := by
  refine Met.ofW (cc := cX5_isTooFar) (maxL := 1) (ret := (some .boolean)) (by decide) rfl ?_
  intro p e s m args below meth c s₁ B hml hv
  obtain ⟨rfl, hsz, hP, hK, hN, hD0, hZ⟩ := hv
  have hx := B.exec
  have hb := B.bytes
  have hr := B.returns
  have hts := atoms_spec (ws := wsX5_isTooFar) B.pre
  have hown : s.vm.findClass RX5 = some m.cls := findClass_of_methodNamed B.named
  have hlocks := B.notSynchronized
  subst hsz
  have hD := hD0.self (sz := s.heap.size)
  generalize hAe : va_A [] s.heap.size = A at hD hZ ⊢
  have hA : ∀ q : Nat, s.heap.size ≤ q → A q := fun q h => by rw [← hAe]; exact Or.inr h
  have hS : va_S A s.heap s.heap [] := va_S.rf
  have hl := lv_entry ([.int p1]) (n := 1) (Nat.le_of_ble_eq_true rfl)
  rw [lg_entry_eq]
  generalize (lg_sl ([.int p1]) ++ List.replicate (1 - (lg_sl ([.int p1])).length) Slot.unset).toArray = ls at hl ⊢
  have hl : lv_has ls 1 [(0, .int p1)] := hl
  unfold fX5_isTooFar at h
  refine lv_iload_n hx hb dX5_isTooFar_0 rfl (lv_at hl 0 rfl) ?_
  refine lv_ldc hx hb hown (hts _ wmX5_isTooFar_0) dX5_isTooFar_1 ?_
  refine lv_icmp_gt (tgt := 12) hx hb dX5_isTooFar_3 (by decide) (fun c1 => ?_) (fun c1 => ?_)
  · have h := (if_pos c1).symm.trans h
    refine lv_iconst (v := (1 : Int32)) hx hb dX5_isTooFar_12 (by decide) ?_
    refine lv_goto (tgt := 17) hx hb dX5_isTooFar_13 (by decide) ?_
    obtain rfl := Option.some.inj h
    exact W.zret (v := (1 : Int32)) hx hb hr (by decide) (fun t ht hW => ⟨⟨(1 : Int32), (), rfl, rfl, by rw [ht]; exact hP, hD⟩, hS.F ht⟩) hS.2.2 dX5_isTooFar_17
  · have h := (if_neg c1).symm.trans h
    refine lv_iload_n hx hb dX5_isTooFar_6 rfl (lv_at hl 0 rfl) ?_
    refine lv_ldc hx hb hown (hts _ wmX5_isTooFar_1) dX5_isTooFar_7 ?_
    refine lv_icmp_ge (tgt := 16) hx hb dX5_isTooFar_9 (by decide) (fun c2 => ?_) (fun c2 => ?_)
    · have h := (if_pos c2).symm.trans h
      refine lv_iconst (v := (0 : Int32)) hx hb dX5_isTooFar_16 (by decide) ?_
      obtain rfl := Option.some.inj h
      exact W.zret (v := (0 : Int32)) hx hb hr (by decide) (fun t ht hW => ⟨⟨(0 : Int32), (), rfl, rfl, by rw [ht]; exact hP, hD⟩, hS.F ht⟩) hS.2.2 dX5_isTooFar_17
    · have h := (if_neg c2).symm.trans h
      refine lv_iconst (v := (1 : Int32)) hx hb dX5_isTooFar_12 (by decide) ?_
      refine lv_goto (tgt := 17) hx hb dX5_isTooFar_13 (by decide) ?_
      obtain rfl := Option.some.inj h
      exact W.zret (v := (1 : Int32)) hx hb hr (by decide) (fun t ht hW => ⟨⟨(1 : Int32), (), rfl, rfl, by rw [ht]; exact hP, hD⟩, hS.F ht⟩) hS.2.2 dX5_isTooFar_17
end
