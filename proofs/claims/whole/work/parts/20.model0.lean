/-! ===== the reference, 0: printed by wip/whole/drive.py out of the bytecode ===== -/
theorem q_545 : (Jvm.Cond.static ({ cls := "YearBasketsModel", name := "in", desc := "(JJJ)Z" } : Jvm.MethodName)) ∈ zG := zt_4 (List.mem_of_getElem? (i := 179) rfl) rfl
theorem q_546 : (Jvm.Cond.code ({ cls := "YearBasketsModel", name := "in", desc := "(JJJ)Z" } : Jvm.MethodName) prog_10_method_3_code (6 : Nat) (Option.some Jvm.ClassFile.FieldType.boolean)) ∈ zG := zt_4 (List.mem_of_getElem? (i := 180) rfl) rfl
theorem q_547 : (Jvm.Cond.initialized "YearBasketsModel") ∈ zG := zt_1 (List.mem_of_getElem? (i := 9) rfl) rfl
theorem q_548 : (Jvm.Cond.static ({ cls := "YearBasketsModel", name := "isYear", desc := "(I)Z" } : Jvm.MethodName)) ∈ zG := zt_4 (List.mem_of_getElem? (i := 175) rfl) rfl
theorem q_549 : (Jvm.Cond.code ({ cls := "YearBasketsModel", name := "isYear", desc := "(I)Z" } : Jvm.MethodName) prog_10_method_4_code (1 : Nat) (Option.some Jvm.ClassFile.FieldType.boolean)) ∈ zG := zt_4 (List.mem_of_getElem? (i := 176) rfl) rfl
theorem q_550 : (Jvm.Cond.constantLong "YearBasketsModel" (88 : Nat) (7 : Int64)) ∈ zG := zt_4 (List.mem_of_getElem? (i := 177) rfl) rfl
theorem q_551 : (Jvm.Cond.methodLink "YearBasketsModel" (90 : Nat) ({ cls := "YearBasketsModel", name := "in", desc := "(JJJ)Z" } : Jvm.MethodName)) ∈ zG := zt_4 (List.mem_of_getElem? (i := 178) rfl) rfl
theorem q_552 : (Jvm.Cond.static ({ cls := "YearBasketsModel", name := "isGood", desc := "(I)Z" } : Jvm.MethodName)) ∈ zG := zt_4 (List.mem_of_getElem? (i := 182) rfl) rfl
theorem q_553 : (Jvm.Cond.code ({ cls := "YearBasketsModel", name := "isGood", desc := "(I)Z" } : Jvm.MethodName) prog_10_method_5_code (1 : Nat) (Option.some Jvm.ClassFile.FieldType.boolean)) ∈ zG := zt_4 (List.mem_of_getElem? (i := 183) rfl) rfl
theorem q_554 : (Jvm.Cond.constantLong "YearBasketsModel" (94 : Nat) (4 : Int64)) ∈ zG := zt_4 (List.mem_of_getElem? (i := 184) rfl) rfl
theorem q_555 : (Jvm.Cond.static ({ cls := "YearBasketsModel", name := "isWho", desc := "(I)Z" } : Jvm.MethodName)) ∈ zG := zt_4 (List.mem_of_getElem? (i := 197) rfl) rfl
theorem q_556 : (Jvm.Cond.code ({ cls := "YearBasketsModel", name := "isWho", desc := "(I)Z" } : Jvm.MethodName) prog_10_method_6_code (1 : Nat) (Option.some Jvm.ClassFile.FieldType.boolean)) ∈ zG := zt_4 (List.mem_of_getElem? (i := 198) rfl) rfl
theorem q_557 : (Jvm.Cond.constantLong "YearBasketsModel" (96 : Nat) (3 : Int64)) ∈ zG := zt_4 (List.mem_of_getElem? (i := 199) rfl) rfl
theorem q_558 : (Jvm.Cond.instanceMethod ({ cls := "YearBasketsModel", name := "price", desc := "(III)I" } : Jvm.MethodName)) ∈ zG := zt_4 (List.mem_of_getElem? (i := 171) rfl) rfl
theorem q_559 : (Jvm.Cond.selects "YearBasketsModel" ({ cls := "YearBasketsModel", name := "price", desc := "(III)I" } : Jvm.MethodName) ({ cls := "YearBasketsModel", name := "price", desc := "(III)I" } : Jvm.MethodName)) ∈ zG := zt_4 (List.mem_of_getElem? (i := 172) rfl) rfl
theorem q_560 : (Jvm.Cond.code ({ cls := "YearBasketsModel", name := "price", desc := "(III)I" } : Jvm.MethodName) prog_10_method_7_code (5 : Nat) (Option.some Jvm.ClassFile.FieldType.int)) ∈ zG := zt_4 (List.mem_of_getElem? (i := 173) rfl) rfl
theorem q_561 : (Jvm.Cond.constantLong "YearBasketsModel" (105 : Nat) (99 : Int64)) ∈ zG := zt_4 (List.mem_of_getElem? (i := 185) rfl) rfl
theorem q_562 : (Jvm.Cond.fieldLink "YearBasketsModel" (7 : Nat) "YearBasketsModel" "prices" "[I") ∈ zG := zt_4 (List.mem_of_getElem? (i := 49) rfl) rfl
theorem q_563 : (Jvm.Cond.methodLink "YearBasketsModel" (102 : Nat) ({ cls := "YearBasketsModel", name := "isGood", desc := "(I)Z" } : Jvm.MethodName)) ∈ zG := zt_4 (List.mem_of_getElem? (i := 181) rfl) rfl
theorem q_564 : (Jvm.Cond.methodLink "YearBasketsModel" (98 : Nat) ({ cls := "YearBasketsModel", name := "isYear", desc := "(I)Z" } : Jvm.MethodName)) ∈ zG := zt_4 (List.mem_of_getElem? (i := 174) rfl) rfl
theorem q_565 : (Jvm.Cond.instanceMethod ({ cls := "YearBasketsModel", name := "bought", desc := "(IIII)I" } : Jvm.MethodName)) ∈ zG := zt_4 (List.mem_of_getElem? (i := 187) rfl) rfl
theorem q_566 : (Jvm.Cond.selects "YearBasketsModel" ({ cls := "YearBasketsModel", name := "bought", desc := "(IIII)I" } : Jvm.MethodName) ({ cls := "YearBasketsModel", name := "bought", desc := "(IIII)I" } : Jvm.MethodName)) ∈ zG := zt_4 (List.mem_of_getElem? (i := 188) rfl) rfl
theorem q_567 : (Jvm.Cond.code ({ cls := "YearBasketsModel", name := "bought", desc := "(IIII)I" } : Jvm.MethodName) prog_10_method_8_code (6 : Nat) (Option.some Jvm.ClassFile.FieldType.int)) ∈ zG := zt_4 (List.mem_of_getElem? (i := 189) rfl) rfl
theorem q_568 : (Jvm.Cond.constantLong "YearBasketsModel" (107 : Nat) (2 : Int64)) ∈ zG := zt_4 (List.mem_of_getElem? (i := 190) rfl) rfl
theorem q_569 : (Jvm.Cond.constantLong "YearBasketsModel" (109 : Nat) (9 : Int64)) ∈ zG := zt_4 (List.mem_of_getElem? (i := 191) rfl) rfl
theorem q_570 : (Jvm.Cond.fieldLink "YearBasketsModel" (13 : Nat) "YearBasketsModel" "buys" "[I") ∈ zG := zt_4 (List.mem_of_getElem? (i := 50) rfl) rfl
theorem q_571 : (Jvm.Cond.instanceMethod ({ cls := "YearBasketsModel", name := "buying", desc := "(III)I" } : Jvm.MethodName)) ∈ zG := zt_4 (List.mem_of_getElem? (i := 206) rfl) rfl
theorem q_572 : (Jvm.Cond.selects "YearBasketsModel" ({ cls := "YearBasketsModel", name := "buying", desc := "(III)I" } : Jvm.MethodName) ({ cls := "YearBasketsModel", name := "buying", desc := "(III)I" } : Jvm.MethodName)) ∈ zG := zG_s (List.mem_of_getElem? (i := 33) rfl) rfl
theorem q_573 : (Jvm.Cond.code ({ cls := "YearBasketsModel", name := "buying", desc := "(III)I" } : Jvm.MethodName) prog_10_method_9_code (6 : Nat) (Option.some Jvm.ClassFile.FieldType.int)) ∈ zG := zt_4 (List.mem_of_getElem? (i := 207) rfl) rfl
theorem q_574 : (Jvm.Cond.instanceMethod ({ cls := "YearBasketsModel", name := "costOf", desc := "(IIII)I" } : Jvm.MethodName)) ∈ zG := zt_4 (List.mem_of_getElem? (i := 202) rfl) rfl
theorem q_575 : (Jvm.Cond.selects "YearBasketsModel" ({ cls := "YearBasketsModel", name := "costOf", desc := "(IIII)I" } : Jvm.MethodName) ({ cls := "YearBasketsModel", name := "costOf", desc := "(IIII)I" } : Jvm.MethodName)) ∈ zG := zG_s (List.mem_of_getElem? (i := 32) rfl) rfl
theorem q_576 : (Jvm.Cond.code ({ cls := "YearBasketsModel", name := "costOf", desc := "(IIII)I" } : Jvm.MethodName) prog_10_method_10_code (9 : Nat) (Option.some Jvm.ClassFile.FieldType.int)) ∈ zG := zt_4 (List.mem_of_getElem? (i := 203) rfl) rfl
theorem q_577 : (Jvm.Cond.methodLink "YearBasketsModel" (111 : Nat) ({ cls := "YearBasketsModel", name := "buying", desc := "(III)I" } : Jvm.MethodName)) ∈ zG := zt_4 (List.mem_of_getElem? (i := 204) rfl) rfl
theorem q_578 : (Jvm.Cond.instanceMethod ({ cls := "YearBasketsModel", name := "cost", desc := "(III)I" } : Jvm.MethodName)) ∈ zG := zt_4 (List.mem_of_getElem? (i := 193) rfl) rfl
theorem q_579 : (Jvm.Cond.selects "YearBasketsModel" ({ cls := "YearBasketsModel", name := "cost", desc := "(III)I" } : Jvm.MethodName) ({ cls := "YearBasketsModel", name := "cost", desc := "(III)I" } : Jvm.MethodName)) ∈ zG := zt_4 (List.mem_of_getElem? (i := 194) rfl) rfl
theorem q_580 : (Jvm.Cond.code ({ cls := "YearBasketsModel", name := "cost", desc := "(III)I" } : Jvm.MethodName) prog_10_method_11_code (5 : Nat) (Option.some Jvm.ClassFile.FieldType.int)) ∈ zG := zt_4 (List.mem_of_getElem? (i := 195) rfl) rfl
theorem q_581 : (Jvm.Cond.methodLink "YearBasketsModel" (118 : Nat) ({ cls := "YearBasketsModel", name := "costOf", desc := "(IIII)I" } : Jvm.MethodName)) ∈ zG := zt_4 (List.mem_of_getElem? (i := 200) rfl) rfl
theorem q_582 : (Jvm.Cond.methodLink "YearBasketsModel" (115 : Nat) ({ cls := "YearBasketsModel", name := "isWho", desc := "(I)Z" } : Jvm.MethodName)) ∈ zG := zt_4 (List.mem_of_getElem? (i := 196) rfl) rfl
theorem q_583 : (Jvm.Cond.instanceMethod ({ cls := "YearBasketsModel", name := "priced", desc := "(I)I" } : Jvm.MethodName)) ∈ zG := zt_4 (List.mem_of_getElem? (i := 214) rfl) rfl
theorem q_584 : (Jvm.Cond.selects "YearBasketsModel" ({ cls := "YearBasketsModel", name := "priced", desc := "(I)I" } : Jvm.MethodName) ({ cls := "YearBasketsModel", name := "priced", desc := "(I)I" } : Jvm.MethodName)) ∈ zG := zG_s (List.mem_of_getElem? (i := 34) rfl) rfl
theorem q_585 : (Jvm.Cond.code ({ cls := "YearBasketsModel", name := "priced", desc := "(I)I" } : Jvm.MethodName) prog_10_method_12_code (4 : Nat) (Option.some Jvm.ClassFile.FieldType.int)) ∈ zG := zt_4 (List.mem_of_getElem? (i := 215) rfl) rfl
theorem q_586 : (Jvm.Cond.instanceMethod ({ cls := "YearBasketsModel", name := "allGoods", desc := "()I" } : Jvm.MethodName)) ∈ zG := zt_4 (List.mem_of_getElem? (i := 218) rfl) rfl
theorem q_587 : (Jvm.Cond.selects "YearBasketsModel" ({ cls := "YearBasketsModel", name := "allGoods", desc := "()I" } : Jvm.MethodName) ({ cls := "YearBasketsModel", name := "allGoods", desc := "()I" } : Jvm.MethodName)) ∈ zG := zG_s (List.mem_of_getElem? (i := 35) rfl) rfl
theorem q_588 : (Jvm.Cond.code ({ cls := "YearBasketsModel", name := "allGoods", desc := "()I" } : Jvm.MethodName) prog_10_method_13_code (3 : Nat) (Option.some Jvm.ClassFile.FieldType.int)) ∈ zG := zt_4 (List.mem_of_getElem? (i := 219) rfl) rfl
theorem q_589 : (Jvm.Cond.methodLink "YearBasketsModel" (122 : Nat) ({ cls := "YearBasketsModel", name := "priced", desc := "(I)I" } : Jvm.MethodName)) ∈ zG := zt_4 (List.mem_of_getElem? (i := 212) rfl) rfl
theorem q_590 : (Jvm.Cond.instanceMethod ({ cls := "YearBasketsModel", name := "goods", desc := "(III)I" } : Jvm.MethodName)) ∈ zG := zt_4 (List.mem_of_getElem? (i := 209) rfl) rfl
theorem q_591 : (Jvm.Cond.selects "YearBasketsModel" ({ cls := "YearBasketsModel", name := "goods", desc := "(III)I" } : Jvm.MethodName) ({ cls := "YearBasketsModel", name := "goods", desc := "(III)I" } : Jvm.MethodName)) ∈ zG := zt_4 (List.mem_of_getElem? (i := 210) rfl) rfl
theorem q_592 : (Jvm.Cond.code ({ cls := "YearBasketsModel", name := "goods", desc := "(III)I" } : Jvm.MethodName) prog_10_method_14_code (4 : Nat) (Option.some Jvm.ClassFile.FieldType.int)) ∈ zG := zt_4 (List.mem_of_getElem? (i := 211) rfl) rfl
theorem q_593 : (Jvm.Cond.methodLink "YearBasketsModel" (126 : Nat) ({ cls := "YearBasketsModel", name := "allGoods", desc := "()I" } : Jvm.MethodName)) ∈ zG := zt_4 (List.mem_of_getElem? (i := 216) rfl) rfl
theorem q_594 : (Jvm.Cond.instanceMethod ({ cls := "YearBasketsModel", name := "count", desc := "(I)I" } : Jvm.MethodName)) ∈ zG := zt_4 (List.mem_of_getElem? (i := 221) rfl) rfl
theorem q_595 : (Jvm.Cond.selects "YearBasketsModel" ({ cls := "YearBasketsModel", name := "count", desc := "(I)I" } : Jvm.MethodName) ({ cls := "YearBasketsModel", name := "count", desc := "(I)I" } : Jvm.MethodName)) ∈ zG := zt_4 (List.mem_of_getElem? (i := 222) rfl) rfl
theorem q_596 : (Jvm.Cond.code ({ cls := "YearBasketsModel", name := "count", desc := "(I)I" } : Jvm.MethodName) prog_10_method_15_code (6 : Nat) (Option.some Jvm.ClassFile.FieldType.int)) ∈ zG := zt_4 (List.mem_of_getElem? (i := 223) rfl) rfl
theorem q_597 : (Jvm.Cond.fieldLink "YearBasketsModel" (130 : Nat) "YearBasketsModel" "numbers" "I") ∈ zG := zt_4 (List.mem_of_getElem? (i := 51) rfl) rfl
theorem q_598 : (Jvm.Cond.fieldLink "YearBasketsModel" (133 : Nat) "YearBasketsModel" "texted" "I") ∈ zG := zt_4 (List.mem_of_getElem? (i := 55) rfl) rfl
theorem q_599 : (Jvm.Cond.instanceMethod ({ cls := "YearBasketsModel", name := "feed", desc := "(IJ)I" } : Jvm.MethodName)) ∈ zG := zt_4 (List.mem_of_getElem? (i := 225) rfl) rfl
theorem q_600 : (Jvm.Cond.selects "YearBasketsModel" ({ cls := "YearBasketsModel", name := "feed", desc := "(IJ)I" } : Jvm.MethodName) ({ cls := "YearBasketsModel", name := "feed", desc := "(IJ)I" } : Jvm.MethodName)) ∈ zG := zt_4 (List.mem_of_getElem? (i := 226) rfl) rfl
theorem q_601 : (Jvm.Cond.code ({ cls := "YearBasketsModel", name := "feed", desc := "(IJ)I" } : Jvm.MethodName) prog_10_method_16_code (5 : Nat) (Option.some Jvm.ClassFile.FieldType.int)) ∈ zG := zt_4 (List.mem_of_getElem? (i := 227) rfl) rfl
theorem q_602 : (Jvm.Cond.constantLong "YearBasketsModel" (138 : Nat) (255 : Int64)) ∈ zG := zt_4 (List.mem_of_getElem? (i := 229) rfl) rfl
theorem q_603 : (Jvm.Cond.fieldLink "YearBasketsModel" (22 : Nat) "YearBasketsModel" "text" "[I") ∈ zG := zt_4 (List.mem_of_getElem? (i := 54) rfl) rfl
theorem q_604 : (Jvm.Cond.constantLong "YearBasketsModel" (136 : Nat) (8 : Int64)) ∈ zG := zt_4 (List.mem_of_getElem? (i := 228) rfl) rfl
theorem q_605 : (Jvm.Cond.instanceMethod ({ cls := "YearBasketsModel", name := "here", desc := "()I" } : Jvm.MethodName)) ∈ zG := zt_5 (List.mem_of_getElem? (i := 4) rfl) rfl
theorem q_606 : (Jvm.Cond.selects "YearBasketsModel" ({ cls := "YearBasketsModel", name := "here", desc := "()I" } : Jvm.MethodName) ({ cls := "YearBasketsModel", name := "here", desc := "()I" } : Jvm.MethodName)) ∈ zG := zG_s (List.mem_of_getElem? (i := 38) rfl) rfl
theorem q_607 : (Jvm.Cond.code ({ cls := "YearBasketsModel", name := "here", desc := "()I" } : Jvm.MethodName) prog_10_method_17_code (1 : Nat) (Option.some Jvm.ClassFile.FieldType.int)) ∈ zG := zt_5 (List.mem_of_getElem? (i := 5) rfl) rfl
theorem q_608 : (Jvm.Cond.fieldLink "YearBasketsModel" (140 : Nat) "YearBasketsModel" "at0" "I") ∈ zG := zt_4 (List.mem_of_getElem? (i := 57) rfl) rfl
theorem q_609 : (Jvm.Cond.instanceMethod ({ cls := "YearBasketsModel", name := "fails", desc := "(II)I" } : Jvm.MethodName)) ∈ zG := zt_5 (List.mem_of_getElem? (i := 17) rfl) rfl
theorem q_610 : (Jvm.Cond.selects "YearBasketsModel" ({ cls := "YearBasketsModel", name := "fails", desc := "(II)I" } : Jvm.MethodName) ({ cls := "YearBasketsModel", name := "fails", desc := "(II)I" } : Jvm.MethodName)) ∈ zG := zG_s (List.mem_of_getElem? (i := 39) rfl) rfl
theorem q_611 : (Jvm.Cond.code ({ cls := "YearBasketsModel", name := "fails", desc := "(II)I" } : Jvm.MethodName) prog_10_method_18_code (3 : Nat) (Option.some Jvm.ClassFile.FieldType.int)) ∈ zG := zt_5 (List.mem_of_getElem? (i := 18) rfl) rfl
theorem q_612 : (Jvm.Cond.fieldLink "YearBasketsModel" (25 : Nat) "YearBasketsModel" "faultPlace" "I") ∈ zG := zt_4 (List.mem_of_getElem? (i := 56) rfl) rfl
theorem q_613 : (Jvm.Cond.instanceMethod ({ cls := "YearBasketsModel", name := "sign", desc := "(I)I" } : Jvm.MethodName)) ∈ zG := zt_5 (List.mem_of_getElem? (i := 29) rfl) rfl
theorem q_614 : (Jvm.Cond.selects "YearBasketsModel" ({ cls := "YearBasketsModel", name := "sign", desc := "(I)I" } : Jvm.MethodName) ({ cls := "YearBasketsModel", name := "sign", desc := "(I)I" } : Jvm.MethodName)) ∈ zG := zG_s (List.mem_of_getElem? (i := 40) rfl) rfl
theorem q_615 : (Jvm.Cond.code ({ cls := "YearBasketsModel", name := "sign", desc := "(I)I" } : Jvm.MethodName) prog_10_method_19_code (2 : Nat) (Option.some Jvm.ClassFile.FieldType.int)) ∈ zG := zt_5 (List.mem_of_getElem? (i := 30) rfl) rfl
theorem q_616 : (Jvm.Cond.methodLink "YearBasketsModel" (146 : Nat) ({ cls := "YearBasketsModel", name := "fails", desc := "(II)I" } : Jvm.MethodName)) ∈ zG := zt_5 (List.mem_of_getElem? (i := 15) rfl) rfl
theorem q_617 : (Jvm.Cond.methodLink "YearBasketsModel" (143 : Nat) ({ cls := "YearBasketsModel", name := "here", desc := "()I" } : Jvm.MethodName)) ∈ zG := zt_5 (List.mem_of_getElem? (i := 2) rfl) rfl
theorem q_618 : (Jvm.Cond.static ({ cls := "YearBasketsModel", name := "code", desc := "(IIIII)J" } : Jvm.MethodName)) ∈ zG := zt_5 (List.mem_of_getElem? (i := 13) rfl) rfl
theorem q_619 : (Jvm.Cond.code ({ cls := "YearBasketsModel", name := "code", desc := "(IIIII)J" } : Jvm.MethodName) prog_10_method_20_code (7 : Nat) (Option.some Jvm.ClassFile.FieldType.long)) ∈ zG := zt_5 (List.mem_of_getElem? (i := 14) rfl) rfl
theorem q_620 : (Jvm.Cond.constantLong "YearBasketsModel" (150 : Nat) (27 : Int64)) ∈ zG := zt_5 (List.mem_of_getElem? (i := 10) rfl) rfl
theorem q_621 : (Jvm.Cond.constantLong "YearBasketsModel" (152 : Nat) (96 : Int64)) ∈ zG := zt_5 (List.mem_of_getElem? (i := 11) rfl) rfl
theorem q_622 : (Jvm.Cond.instanceMethod ({ cls := "YearBasketsModel", name := "readKind", desc := "()I" } : Jvm.MethodName)) ∈ zG := zt_5 (List.mem_of_getElem? (i := 0) rfl) rfl
theorem q_623 : (Jvm.Cond.selects "YearBasketsModel" ({ cls := "YearBasketsModel", name := "readKind", desc := "()I" } : Jvm.MethodName) ({ cls := "YearBasketsModel", name := "readKind", desc := "()I" } : Jvm.MethodName)) ∈ zG := zG_s (List.mem_of_getElem? (i := 37) rfl) rfl
theorem q_624 : (Jvm.Cond.code ({ cls := "YearBasketsModel", name := "readKind", desc := "()I" } : Jvm.MethodName) prog_10_method_21_code (7 : Nat) (Option.some Jvm.ClassFile.FieldType.int)) ∈ zG := zt_5 (List.mem_of_getElem? (i := 1) rfl) rfl
theorem q_625 : (Jvm.Cond.methodLink "YearBasketsModel" (165 : Nat) ({ cls := "YearBasketsModel", name := "code", desc := "(IIIII)J" } : Jvm.MethodName)) ∈ zG := zt_5 (List.mem_of_getElem? (i := 12) rfl) rfl
theorem q_626 : (Jvm.Cond.fieldLink "YearBasketsModel" (154 : Nat) "YearBasketsModel" "wordEnd" "I") ∈ zG := zt_4 (List.mem_of_getElem? (i := 58) rfl) rfl
theorem q_627 : (Jvm.Cond.constantLong "YearBasketsModel" (157 : Nat) (97 : Int64)) ∈ zG := zt_5 (List.mem_of_getElem? (i := 6) rfl) rfl
theorem q_628 : (Jvm.Cond.constantLong "YearBasketsModel" (159 : Nat) (122 : Int64)) ∈ zG := zt_5 (List.mem_of_getElem? (i := 7) rfl) rfl
theorem q_629 : (Jvm.Cond.constantLong "YearBasketsModel" (161 : Nat) (1000000000 : Int64)) ∈ zG := zt_5 (List.mem_of_getElem? (i := 8) rfl) rfl
theorem q_630 : (Jvm.Cond.constantLong "YearBasketsModel" (163 : Nat) (2000000000 : Int64)) ∈ zG := zt_5 (List.mem_of_getElem? (i := 9) rfl) rfl
theorem q_631 : (Jvm.Cond.static ({ cls := "YearBasketsModel", name := "isTwo", desc := "(I)Z" } : Jvm.MethodName)) ∈ zG := zt_5 (List.mem_of_getElem? (i := 22) rfl) rfl
theorem q_632 : (Jvm.Cond.code ({ cls := "YearBasketsModel", name := "isTwo", desc := "(I)Z" } : Jvm.MethodName) prog_10_method_22_code (1 : Nat) (Option.some Jvm.ClassFile.FieldType.boolean)) ∈ zG := zt_5 (List.mem_of_getElem? (i := 23) rfl) rfl
theorem q_633 : (Jvm.Cond.static ({ cls := "YearBasketsModel", name := "isOne", desc := "(I)Z" } : Jvm.MethodName)) ∈ zG := zt_5 (List.mem_of_getElem? (i := 25) rfl) rfl
theorem q_634 : (Jvm.Cond.code ({ cls := "YearBasketsModel", name := "isOne", desc := "(I)Z" } : Jvm.MethodName) prog_10_method_23_code (1 : Nat) (Option.some Jvm.ClassFile.FieldType.boolean)) ∈ zG := zt_5 (List.mem_of_getElem? (i := 26) rfl) rfl
theorem q_635 : (Jvm.Cond.instanceMethod ({ cls := "YearBasketsModel", name := "readNode", desc := "(I)I" } : Jvm.MethodName)) ∈ zG := zt_4 (List.mem_of_getElem? (i := 236) rfl) rfl
theorem q_636 : (Jvm.Cond.selects "YearBasketsModel" ({ cls := "YearBasketsModel", name := "readNode", desc := "(I)I" } : Jvm.MethodName) ({ cls := "YearBasketsModel", name := "readNode", desc := "(I)I" } : Jvm.MethodName)) ∈ zG := zG_s (List.mem_of_getElem? (i := 36) rfl) rfl
theorem q_637 : (Jvm.Cond.code ({ cls := "YearBasketsModel", name := "readNode", desc := "(I)I" } : Jvm.MethodName) prog_10_method_24_code (5 : Nat) (Option.some Jvm.ClassFile.FieldType.int)) ∈ zG := zt_4 (List.mem_of_getElem? (i := 237) rfl) rfl
theorem q_638 : (Jvm.Cond.methodLink "YearBasketsModel" (188 : Nat) ({ cls := "YearBasketsModel", name := "sign", desc := "(I)I" } : Jvm.MethodName)) ∈ zG := zt_5 (List.mem_of_getElem? (i := 27) rfl) rfl
theorem q_639 : (Jvm.Cond.methodLink "YearBasketsModel" (182 : Nat) ({ cls := "YearBasketsModel", name := "isTwo", desc := "(I)Z" } : Jvm.MethodName)) ∈ zG := zt_5 (List.mem_of_getElem? (i := 21) rfl) rfl
theorem q_640 : (Jvm.Cond.fieldLink "YearBasketsModel" (172 : Nat) "YearBasketsModel" "opened" "I") ∈ zG := zt_4 (List.mem_of_getElem? (i := 61) rfl) rfl
theorem q_641 : (Jvm.Cond.fieldLink "YearBasketsModel" (32 : Nat) "YearBasketsModel" "isSecond" "[Z") ∈ zG := zt_4 (List.mem_of_getElem? (i := 60) rfl) rfl
theorem q_642 : (Jvm.Cond.fieldLink "YearBasketsModel" (29 : Nat) "YearBasketsModel" "open" "[I") ∈ zG := zt_4 (List.mem_of_getElem? (i := 59) rfl) rfl
theorem q_643 : (Jvm.Cond.methodLink "YearBasketsModel" (185 : Nat) ({ cls := "YearBasketsModel", name := "isOne", desc := "(I)Z" } : Jvm.MethodName)) ∈ zG := zt_5 (List.mem_of_getElem? (i := 24) rfl) rfl
theorem q_644 : (Jvm.Cond.constantLong "YearBasketsModel" (178 : Nat) (48 : Int64)) ∈ zG := zt_5 (List.mem_of_getElem? (i := 19) rfl) rfl
theorem q_645 : (Jvm.Cond.constantLong "YearBasketsModel" (180 : Nat) (55 : Int64)) ∈ zG := zt_5 (List.mem_of_getElem? (i := 20) rfl) rfl
theorem q_646 : (Jvm.Cond.fieldLink "YearBasketsModel" (19 : Nat) "YearBasketsModel" "marks" "[I") ∈ zG := zt_4 (List.mem_of_getElem? (i := 53) rfl) rfl
theorem q_647 : (Jvm.Cond.fieldLink "YearBasketsModel" (16 : Nat) "YearBasketsModel" "kinds" "[I") ∈ zG := zt_4 (List.mem_of_getElem? (i := 52) rfl) rfl
theorem q_648 : (Jvm.Cond.fieldLink "YearBasketsModel" (175 : Nat) "YearBasketsModel" "nodes" "I") ∈ zG := zt_4 (List.mem_of_getElem? (i := 62) rfl) rfl
theorem q_649 : (Jvm.Cond.methodLink "YearBasketsModel" (169 : Nat) ({ cls := "YearBasketsModel", name := "readKind", desc := "()I" } : Jvm.MethodName)) ∈ zG := zt_4 (List.mem_of_getElem? (i := 238) rfl) rfl
abbrev b_M_in : ByteArray := prog_10_method_3_code
abbrev y_M_in : MethodName := ⟨"YearBasketsModel", "in", "(JJJ)Z"⟩
abbrev b_M_isYear : ByteArray := prog_10_method_4_code
abbrev y_M_isYear : MethodName := ⟨"YearBasketsModel", "isYear", "(I)Z"⟩
abbrev b_M_isGood : ByteArray := prog_10_method_5_code
abbrev y_M_isGood : MethodName := ⟨"YearBasketsModel", "isGood", "(I)Z"⟩
abbrev b_M_isWho : ByteArray := prog_10_method_6_code
abbrev y_M_isWho : MethodName := ⟨"YearBasketsModel", "isWho", "(I)Z"⟩
abbrev b_M_price : ByteArray := prog_10_method_7_code
abbrev y_M_price : MethodName := ⟨"YearBasketsModel", "price", "(III)I"⟩
abbrev b_M_bought : ByteArray := prog_10_method_8_code
abbrev y_M_bought : MethodName := ⟨"YearBasketsModel", "bought", "(IIII)I"⟩
abbrev b_M_buying : ByteArray := prog_10_method_9_code
abbrev y_M_buying : MethodName := ⟨"YearBasketsModel", "buying", "(III)I"⟩
abbrev b_M_costOf : ByteArray := prog_10_method_10_code
abbrev y_M_costOf : MethodName := ⟨"YearBasketsModel", "costOf", "(IIII)I"⟩
abbrev b_M_cost : ByteArray := prog_10_method_11_code
abbrev y_M_cost : MethodName := ⟨"YearBasketsModel", "cost", "(III)I"⟩
abbrev b_M_priced : ByteArray := prog_10_method_12_code
abbrev y_M_priced : MethodName := ⟨"YearBasketsModel", "priced", "(I)I"⟩
abbrev b_M_allGoods : ByteArray := prog_10_method_13_code
abbrev y_M_allGoods : MethodName := ⟨"YearBasketsModel", "allGoods", "()I"⟩
abbrev b_M_goods : ByteArray := prog_10_method_14_code
abbrev y_M_goods : MethodName := ⟨"YearBasketsModel", "goods", "(III)I"⟩
abbrev b_M_count : ByteArray := prog_10_method_15_code
abbrev y_M_count : MethodName := ⟨"YearBasketsModel", "count", "(I)I"⟩
abbrev b_M_feed : ByteArray := prog_10_method_16_code
abbrev y_M_feed : MethodName := ⟨"YearBasketsModel", "feed", "(IJ)I"⟩
abbrev b_M_here : ByteArray := prog_10_method_17_code
abbrev y_M_here : MethodName := ⟨"YearBasketsModel", "here", "()I"⟩
abbrev b_M_fails : ByteArray := prog_10_method_18_code
abbrev y_M_fails : MethodName := ⟨"YearBasketsModel", "fails", "(II)I"⟩
abbrev b_M_sign : ByteArray := prog_10_method_19_code
abbrev y_M_sign : MethodName := ⟨"YearBasketsModel", "sign", "(I)I"⟩
abbrev b_M_code : ByteArray := prog_10_method_20_code
abbrev y_M_code : MethodName := ⟨"YearBasketsModel", "code", "(IIIII)J"⟩
abbrev b_M_readKind : ByteArray := prog_10_method_21_code
abbrev y_M_readKind : MethodName := ⟨"YearBasketsModel", "readKind", "()I"⟩
abbrev b_M_isTwo : ByteArray := prog_10_method_22_code
abbrev y_M_isTwo : MethodName := ⟨"YearBasketsModel", "isTwo", "(I)Z"⟩
abbrev b_M_isOne : ByteArray := prog_10_method_23_code
abbrev y_M_isOne : MethodName := ⟨"YearBasketsModel", "isOne", "(I)Z"⟩
abbrev b_M_readNode : ByteArray := prog_10_method_24_code
abbrev y_M_readNode : MethodName := ⟨"YearBasketsModel", "readNode", "(I)I"⟩
theorem w_M_in : Cond.code y_M_in b_M_in 6 (some .boolean) ∈ zG ∧ Cond.static y_M_in ∈ zG ∧ Cond.initialized y_M_in.cls ∈ zG ∧ zY y_M_in 3 := ⟨q_546, q_545, q_547, by decide +kernel⟩
theorem w_M_isYear : Cond.code y_M_isYear b_M_isYear 1 (some .boolean) ∈ zG ∧ Cond.static y_M_isYear ∈ zG ∧ Cond.initialized y_M_isYear.cls ∈ zG ∧ zY y_M_isYear 1 := ⟨q_549, q_548, q_547, by decide +kernel⟩
theorem w_M_isGood : Cond.code y_M_isGood b_M_isGood 1 (some .boolean) ∈ zG ∧ Cond.static y_M_isGood ∈ zG ∧ Cond.initialized y_M_isGood.cls ∈ zG ∧ zY y_M_isGood 1 := ⟨q_553, q_552, q_547, by decide +kernel⟩
theorem w_M_isWho : Cond.code y_M_isWho b_M_isWho 1 (some .boolean) ∈ zG ∧ Cond.static y_M_isWho ∈ zG ∧ Cond.initialized y_M_isWho.cls ∈ zG ∧ zY y_M_isWho 1 := ⟨q_556, q_555, q_547, by decide +kernel⟩
theorem w_M_price : Cond.code y_M_price b_M_price 5 (some .int) ∈ zG ∧ (Cond.instanceMethod y_M_price ∈ zG ∧ Cond.selects y_M_price.cls y_M_price y_M_price ∈ zG) ∧ Cond.initialized y_M_price.cls ∈ zG ∧ zY y_M_price 3 := ⟨q_560, ⟨q_558, q_559⟩, q_547, by decide +kernel⟩
theorem w_M_bought : Cond.code y_M_bought b_M_bought 6 (some .int) ∈ zG ∧ (Cond.instanceMethod y_M_bought ∈ zG ∧ Cond.selects y_M_bought.cls y_M_bought y_M_bought ∈ zG) ∧ Cond.initialized y_M_bought.cls ∈ zG ∧ zY y_M_bought 4 := ⟨q_567, ⟨q_565, q_566⟩, q_547, by decide +kernel⟩
theorem w_M_buying : Cond.code y_M_buying b_M_buying 6 (some .int) ∈ zG ∧ (Cond.instanceMethod y_M_buying ∈ zG ∧ Cond.selects y_M_buying.cls y_M_buying y_M_buying ∈ zG) ∧ Cond.initialized y_M_buying.cls ∈ zG ∧ zY y_M_buying 3 := ⟨q_573, ⟨q_571, q_572⟩, q_547, by decide +kernel⟩
theorem w_M_costOf : Cond.code y_M_costOf b_M_costOf 9 (some .int) ∈ zG ∧ (Cond.instanceMethod y_M_costOf ∈ zG ∧ Cond.selects y_M_costOf.cls y_M_costOf y_M_costOf ∈ zG) ∧ Cond.initialized y_M_costOf.cls ∈ zG ∧ zY y_M_costOf 4 := ⟨q_576, ⟨q_574, q_575⟩, q_547, by decide +kernel⟩
theorem w_M_cost : Cond.code y_M_cost b_M_cost 5 (some .int) ∈ zG ∧ (Cond.instanceMethod y_M_cost ∈ zG ∧ Cond.selects y_M_cost.cls y_M_cost y_M_cost ∈ zG) ∧ Cond.initialized y_M_cost.cls ∈ zG ∧ zY y_M_cost 3 := ⟨q_580, ⟨q_578, q_579⟩, q_547, by decide +kernel⟩
theorem w_M_priced : Cond.code y_M_priced b_M_priced 4 (some .int) ∈ zG ∧ (Cond.instanceMethod y_M_priced ∈ zG ∧ Cond.selects y_M_priced.cls y_M_priced y_M_priced ∈ zG) ∧ Cond.initialized y_M_priced.cls ∈ zG ∧ zY y_M_priced 1 := ⟨q_585, ⟨q_583, q_584⟩, q_547, by decide +kernel⟩
theorem w_M_allGoods : Cond.code y_M_allGoods b_M_allGoods 3 (some .int) ∈ zG ∧ (Cond.instanceMethod y_M_allGoods ∈ zG ∧ Cond.selects y_M_allGoods.cls y_M_allGoods y_M_allGoods ∈ zG) ∧ Cond.initialized y_M_allGoods.cls ∈ zG ∧ zY y_M_allGoods 0 := ⟨q_588, ⟨q_586, q_587⟩, q_547, by decide +kernel⟩
theorem w_M_goods : Cond.code y_M_goods b_M_goods 4 (some .int) ∈ zG ∧ (Cond.instanceMethod y_M_goods ∈ zG ∧ Cond.selects y_M_goods.cls y_M_goods y_M_goods ∈ zG) ∧ Cond.initialized y_M_goods.cls ∈ zG ∧ zY y_M_goods 3 := ⟨q_592, ⟨q_590, q_591⟩, q_547, by decide +kernel⟩
theorem w_M_count : Cond.code y_M_count b_M_count 6 (some .int) ∈ zG ∧ (Cond.instanceMethod y_M_count ∈ zG ∧ Cond.selects y_M_count.cls y_M_count y_M_count ∈ zG) ∧ Cond.initialized y_M_count.cls ∈ zG ∧ zY y_M_count 1 := ⟨q_596, ⟨q_594, q_595⟩, q_547, by decide +kernel⟩
theorem w_M_feed : Cond.code y_M_feed b_M_feed 5 (some .int) ∈ zG ∧ (Cond.instanceMethod y_M_feed ∈ zG ∧ Cond.selects y_M_feed.cls y_M_feed y_M_feed ∈ zG) ∧ Cond.initialized y_M_feed.cls ∈ zG ∧ zY y_M_feed 2 := ⟨q_601, ⟨q_599, q_600⟩, q_547, by decide +kernel⟩
theorem w_M_here : Cond.code y_M_here b_M_here 1 (some .int) ∈ zG ∧ (Cond.instanceMethod y_M_here ∈ zG ∧ Cond.selects y_M_here.cls y_M_here y_M_here ∈ zG) ∧ Cond.initialized y_M_here.cls ∈ zG ∧ zY y_M_here 0 := ⟨q_607, ⟨q_605, q_606⟩, q_547, by decide +kernel⟩
theorem w_M_fails : Cond.code y_M_fails b_M_fails 3 (some .int) ∈ zG ∧ (Cond.instanceMethod y_M_fails ∈ zG ∧ Cond.selects y_M_fails.cls y_M_fails y_M_fails ∈ zG) ∧ Cond.initialized y_M_fails.cls ∈ zG ∧ zY y_M_fails 2 := ⟨q_611, ⟨q_609, q_610⟩, q_547, by decide +kernel⟩
theorem w_M_sign : Cond.code y_M_sign b_M_sign 2 (some .int) ∈ zG ∧ (Cond.instanceMethod y_M_sign ∈ zG ∧ Cond.selects y_M_sign.cls y_M_sign y_M_sign ∈ zG) ∧ Cond.initialized y_M_sign.cls ∈ zG ∧ zY y_M_sign 1 := ⟨q_615, ⟨q_613, q_614⟩, q_547, by decide +kernel⟩
theorem w_M_code : Cond.code y_M_code b_M_code 7 (some .long) ∈ zG ∧ Cond.static y_M_code ∈ zG ∧ Cond.initialized y_M_code.cls ∈ zG ∧ zY y_M_code 5 := ⟨q_619, q_618, q_547, by decide +kernel⟩
theorem w_M_readKind : Cond.code y_M_readKind b_M_readKind 7 (some .int) ∈ zG ∧ (Cond.instanceMethod y_M_readKind ∈ zG ∧ Cond.selects y_M_readKind.cls y_M_readKind y_M_readKind ∈ zG) ∧ Cond.initialized y_M_readKind.cls ∈ zG ∧ zY y_M_readKind 0 := ⟨q_624, ⟨q_622, q_623⟩, q_547, by decide +kernel⟩
theorem w_M_isTwo : Cond.code y_M_isTwo b_M_isTwo 1 (some .boolean) ∈ zG ∧ Cond.static y_M_isTwo ∈ zG ∧ Cond.initialized y_M_isTwo.cls ∈ zG ∧ zY y_M_isTwo 1 := ⟨q_632, q_631, q_547, by decide +kernel⟩
theorem w_M_isOne : Cond.code y_M_isOne b_M_isOne 1 (some .boolean) ∈ zG ∧ Cond.static y_M_isOne ∈ zG ∧ Cond.initialized y_M_isOne.cls ∈ zG ∧ zY y_M_isOne 1 := ⟨q_634, q_633, q_547, by decide +kernel⟩
theorem w_M_readNode : Cond.code y_M_readNode b_M_readNode 5 (some .int) ∈ zG ∧ (Cond.instanceMethod y_M_readNode ∈ zG ∧ Cond.selects y_M_readNode.cls y_M_readNode y_M_readNode ∈ zG) ∧ Cond.initialized y_M_readNode.cls ∈ zG ∧ zY y_M_readNode 1 := ⟨q_637, ⟨q_635, q_636⟩, q_547, by decide +kernel⟩
theorem d_M_in_0 : decode b_M_in 0 = .ok (.lload_n 0, 1) := by decide +kernel
theorem d_M_in_1 : decode b_M_in 1 = .ok (.lload_n 2, 1) := by decide +kernel
theorem d_M_in_2 : decode b_M_in 2 = .ok (.lcmp, 1) := by decide +kernel
theorem d_M_in_3 : decode b_M_in 3 = .ok (.ifCond .lt 14, 3) := by decide +kernel
theorem d_M_in_6 : decode b_M_in 6 = .ok (.lload_n 0, 1) := by decide +kernel
theorem d_M_in_7 : decode b_M_in 7 = .ok (.lload 4, 2) := by decide +kernel
theorem d_M_in_9 : decode b_M_in 9 = .ok (.lcmp, 1) := by decide +kernel
theorem d_M_in_10 : decode b_M_in 10 = .ok (.ifCond .gt 7, 3) := by decide +kernel
theorem d_M_in_13 : decode b_M_in 13 = .ok (.iconst 1, 1) := by decide +kernel
theorem d_M_in_14 : decode b_M_in 14 = .ok (.goto 4, 3) := by decide +kernel
theorem d_M_in_17 : decode b_M_in 17 = .ok (.iconst 0, 1) := by decide +kernel
theorem d_M_in_18 : decode b_M_in 18 = .ok (.ireturn, 1) := by decide +kernel
theorem d_M_isYear_0 : decode b_M_isYear 0 = .ok (.iload_n 0, 1) := by decide +kernel
theorem d_M_isYear_1 : decode b_M_isYear 1 = .ok (.i2l, 1) := by decide +kernel
theorem d_M_isYear_2 : decode b_M_isYear 2 = .ok (.lconst 0, 1) := by decide +kernel
theorem d_M_isYear_3 : decode b_M_isYear 3 = .ok (.ldc2_w 88, 3) := by decide +kernel
theorem d_M_isYear_6 : decode b_M_isYear 6 = .ok (.invokestatic 90, 3) := by decide +kernel
theorem d_M_isYear_9 : decode b_M_isYear 9 = .ok (.ireturn, 1) := by decide +kernel
theorem d_M_isGood_0 : decode b_M_isGood 0 = .ok (.iload_n 0, 1) := by decide +kernel
theorem d_M_isGood_1 : decode b_M_isGood 1 = .ok (.i2l, 1) := by decide +kernel
theorem d_M_isGood_2 : decode b_M_isGood 2 = .ok (.lconst 0, 1) := by decide +kernel
theorem d_M_isGood_3 : decode b_M_isGood 3 = .ok (.ldc2_w 94, 3) := by decide +kernel
theorem d_M_isGood_6 : decode b_M_isGood 6 = .ok (.invokestatic 90, 3) := by decide +kernel
theorem d_M_isGood_9 : decode b_M_isGood 9 = .ok (.ireturn, 1) := by decide +kernel
theorem d_M_isWho_0 : decode b_M_isWho 0 = .ok (.iload_n 0, 1) := by decide +kernel
theorem d_M_isWho_1 : decode b_M_isWho 1 = .ok (.i2l, 1) := by decide +kernel
theorem d_M_isWho_2 : decode b_M_isWho 2 = .ok (.lconst 0, 1) := by decide +kernel
theorem d_M_isWho_3 : decode b_M_isWho 3 = .ok (.ldc2_w 96, 3) := by decide +kernel
theorem d_M_isWho_6 : decode b_M_isWho 6 = .ok (.invokestatic 90, 3) := by decide +kernel
theorem d_M_isWho_9 : decode b_M_isWho 9 = .ok (.ireturn, 1) := by decide +kernel
theorem d_M_price_0 : decode b_M_price 0 = .ok (.iload_n 1, 1) := by decide +kernel
theorem d_M_price_1 : decode b_M_price 1 = .ok (.invokestatic 98, 3) := by decide +kernel
theorem d_M_price_4 : decode b_M_price 4 = .ok (.ifCond .eq 10, 3) := by decide +kernel
theorem d_M_price_7 : decode b_M_price 7 = .ok (.iload_n 2, 1) := by decide +kernel
theorem d_M_price_8 : decode b_M_price 8 = .ok (.invokestatic 102, 3) := by decide +kernel
theorem d_M_price_11 : decode b_M_price 11 = .ok (.ifCond .ne 7, 3) := by decide +kernel
theorem d_M_price_14 : decode b_M_price 14 = .ok (.sipush (-1001), 3) := by decide +kernel
theorem d_M_price_17 : decode b_M_price 17 = .ok (.ireturn, 1) := by decide +kernel
theorem d_M_price_18 : decode b_M_price 18 = .ok (.iload_n 3, 1) := by decide +kernel
theorem d_M_price_19 : decode b_M_price 19 = .ok (.i2l, 1) := by decide +kernel
theorem d_M_price_20 : decode b_M_price 20 = .ok (.lconst 0, 1) := by decide +kernel
theorem d_M_price_21 : decode b_M_price 21 = .ok (.ldc2_w 105, 3) := by decide +kernel
theorem d_M_price_24 : decode b_M_price 24 = .ok (.invokestatic 90, 3) := by decide +kernel
theorem d_M_price_27 : decode b_M_price 27 = .ok (.ifCond .ne 7, 3) := by decide +kernel
theorem d_M_price_30 : decode b_M_price 30 = .ok (.sipush (-1002), 3) := by decide +kernel
theorem d_M_price_33 : decode b_M_price 33 = .ok (.ireturn, 1) := by decide +kernel
theorem d_M_price_34 : decode b_M_price 34 = .ok (.aload_n 0, 1) := by decide +kernel
theorem d_M_price_35 : decode b_M_price 35 = .ok (.getfield 7, 3) := by decide +kernel
theorem d_M_price_38 : decode b_M_price 38 = .ok (.iconst 5, 1) := by decide +kernel
theorem d_M_price_39 : decode b_M_price 39 = .ok (.iload_n 1, 1) := by decide +kernel
theorem d_M_price_40 : decode b_M_price 40 = .ok (.imul, 1) := by decide +kernel
theorem d_M_price_41 : decode b_M_price 41 = .ok (.iload_n 2, 1) := by decide +kernel
theorem d_M_price_42 : decode b_M_price 42 = .ok (.iadd, 1) := by decide +kernel
theorem d_M_price_43 : decode b_M_price 43 = .ok (.iaload, 1) := by decide +kernel
theorem d_M_price_44 : decode b_M_price 44 = .ok (.istore 4, 2) := by decide +kernel
theorem d_M_price_46 : decode b_M_price 46 = .ok (.aload_n 0, 1) := by decide +kernel
theorem d_M_price_47 : decode b_M_price 47 = .ok (.getfield 7, 3) := by decide +kernel
theorem d_M_price_50 : decode b_M_price 50 = .ok (.iconst 5, 1) := by decide +kernel
theorem d_M_price_51 : decode b_M_price 51 = .ok (.iload_n 1, 1) := by decide +kernel
theorem d_M_price_52 : decode b_M_price 52 = .ok (.imul, 1) := by decide +kernel
theorem d_M_price_53 : decode b_M_price 53 = .ok (.iload_n 2, 1) := by decide +kernel
theorem d_M_price_54 : decode b_M_price 54 = .ok (.iadd, 1) := by decide +kernel
theorem d_M_price_55 : decode b_M_price 55 = .ok (.iload_n 3, 1) := by decide +kernel
theorem d_M_price_56 : decode b_M_price 56 = .ok (.iastore, 1) := by decide +kernel
theorem d_M_price_57 : decode b_M_price 57 = .ok (.iload 4, 2) := by decide +kernel
theorem d_M_price_59 : decode b_M_price 59 = .ok (.ireturn, 1) := by decide +kernel
theorem d_M_bought_0 : decode b_M_bought 0 = .ok (.iload_n 1, 1) := by decide +kernel
theorem d_M_bought_1 : decode b_M_bought 1 = .ok (.i2l, 1) := by decide +kernel
theorem d_M_bought_2 : decode b_M_bought 2 = .ok (.lconst 0, 1) := by decide +kernel
theorem d_M_bought_3 : decode b_M_bought 3 = .ok (.ldc2_w 107, 3) := by decide +kernel
theorem d_M_bought_6 : decode b_M_bought 6 = .ok (.invokestatic 90, 3) := by decide +kernel
theorem d_M_bought_9 : decode b_M_bought 9 = .ok (.ifCond .eq 17, 3) := by decide +kernel
theorem d_M_bought_12 : decode b_M_bought 12 = .ok (.iload_n 2, 1) := by decide +kernel
theorem d_M_bought_13 : decode b_M_bought 13 = .ok (.invokestatic 98, 3) := by decide +kernel
theorem d_M_bought_16 : decode b_M_bought 16 = .ok (.ifCond .eq 10, 3) := by decide +kernel
theorem d_M_bought_19 : decode b_M_bought 19 = .ok (.iload_n 3, 1) := by decide +kernel
theorem d_M_bought_20 : decode b_M_bought 20 = .ok (.invokestatic 102, 3) := by decide +kernel
theorem d_M_bought_23 : decode b_M_bought 23 = .ok (.ifCond .ne 7, 3) := by decide +kernel
theorem d_M_bought_26 : decode b_M_bought 26 = .ok (.sipush (-1001), 3) := by decide +kernel
theorem d_M_bought_29 : decode b_M_bought 29 = .ok (.ireturn, 1) := by decide +kernel
theorem d_M_bought_30 : decode b_M_bought 30 = .ok (.iload 4, 2) := by decide +kernel
theorem d_M_bought_32 : decode b_M_bought 32 = .ok (.i2l, 1) := by decide +kernel
theorem d_M_bought_33 : decode b_M_bought 33 = .ok (.lconst 0, 1) := by decide +kernel
theorem d_M_bought_34 : decode b_M_bought 34 = .ok (.ldc2_w 109, 3) := by decide +kernel
theorem d_M_bought_37 : decode b_M_bought 37 = .ok (.invokestatic 90, 3) := by decide +kernel
theorem d_M_bought_40 : decode b_M_bought 40 = .ok (.ifCond .ne 7, 3) := by decide +kernel
theorem d_M_bought_43 : decode b_M_bought 43 = .ok (.sipush (-1002), 3) := by decide +kernel
theorem d_M_bought_46 : decode b_M_bought 46 = .ok (.ireturn, 1) := by decide +kernel
theorem d_M_bought_47 : decode b_M_bought 47 = .ok (.aload_n 0, 1) := by decide +kernel
theorem d_M_bought_48 : decode b_M_bought 48 = .ok (.getfield 13, 3) := by decide +kernel
theorem d_M_bought_51 : decode b_M_bought 51 = .ok (.bipush 50, 2) := by decide +kernel
theorem d_M_bought_53 : decode b_M_bought 53 = .ok (.iload_n 1, 1) := by decide +kernel
theorem d_M_bought_54 : decode b_M_bought 54 = .ok (.imul, 1) := by decide +kernel
theorem d_M_bought_55 : decode b_M_bought 55 = .ok (.iconst 5, 1) := by decide +kernel
theorem d_M_bought_56 : decode b_M_bought 56 = .ok (.iload_n 2, 1) := by decide +kernel
theorem d_M_bought_57 : decode b_M_bought 57 = .ok (.imul, 1) := by decide +kernel
theorem d_M_bought_58 : decode b_M_bought 58 = .ok (.iadd, 1) := by decide +kernel
theorem d_M_bought_59 : decode b_M_bought 59 = .ok (.iload_n 3, 1) := by decide +kernel
theorem d_M_bought_60 : decode b_M_bought 60 = .ok (.iadd, 1) := by decide +kernel
theorem d_M_bought_61 : decode b_M_bought 61 = .ok (.iaload, 1) := by decide +kernel
theorem d_M_bought_62 : decode b_M_bought 62 = .ok (.istore 5, 2) := by decide +kernel
theorem d_M_bought_64 : decode b_M_bought 64 = .ok (.aload_n 0, 1) := by decide +kernel
theorem d_M_bought_65 : decode b_M_bought 65 = .ok (.getfield 13, 3) := by decide +kernel
theorem d_M_bought_68 : decode b_M_bought 68 = .ok (.bipush 50, 2) := by decide +kernel
theorem d_M_bought_70 : decode b_M_bought 70 = .ok (.iload_n 1, 1) := by decide +kernel
theorem d_M_bought_71 : decode b_M_bought 71 = .ok (.imul, 1) := by decide +kernel
theorem d_M_bought_72 : decode b_M_bought 72 = .ok (.iconst 5, 1) := by decide +kernel
theorem d_M_bought_73 : decode b_M_bought 73 = .ok (.iload_n 2, 1) := by decide +kernel
theorem d_M_bought_74 : decode b_M_bought 74 = .ok (.imul, 1) := by decide +kernel
theorem d_M_bought_75 : decode b_M_bought 75 = .ok (.iadd, 1) := by decide +kernel
theorem d_M_bought_76 : decode b_M_bought 76 = .ok (.iload_n 3, 1) := by decide +kernel
theorem d_M_bought_77 : decode b_M_bought 77 = .ok (.iadd, 1) := by decide +kernel
theorem d_M_bought_78 : decode b_M_bought 78 = .ok (.iload 4, 2) := by decide +kernel
theorem d_M_bought_80 : decode b_M_bought 80 = .ok (.iastore, 1) := by decide +kernel
theorem d_M_bought_81 : decode b_M_bought 81 = .ok (.iload 5, 2) := by decide +kernel
theorem d_M_bought_83 : decode b_M_bought 83 = .ok (.ireturn, 1) := by decide +kernel
theorem d_M_buying_0 : decode b_M_buying 0 = .ok (.iconst 0, 1) := by decide +kernel
theorem d_M_buying_1 : decode b_M_buying 1 = .ok (.istore 4, 2) := by decide +kernel
theorem d_M_buying_3 : decode b_M_buying 3 = .ok (.iconst 0, 1) := by decide +kernel
theorem d_M_buying_4 : decode b_M_buying 4 = .ok (.istore 5, 2) := by decide +kernel
theorem d_M_buying_6 : decode b_M_buying 6 = .ok (.iload 5, 2) := by decide +kernel
theorem d_M_buying_8 : decode b_M_buying 8 = .ok (.iconst 3, 1) := by decide +kernel
theorem d_M_buying_9 : decode b_M_buying 9 = .ok (.if_icmp .ge 45, 3) := by decide +kernel
theorem d_M_buying_12 : decode b_M_buying 12 = .ok (.iload 4, 2) := by decide +kernel
theorem d_M_buying_14 : decode b_M_buying 14 = .ok (.iload_n 1, 1) := by decide +kernel
theorem d_M_buying_15 : decode b_M_buying 15 = .ok (.iconst 3, 1) := by decide +kernel
theorem d_M_buying_16 : decode b_M_buying 16 = .ok (.if_icmp .eq 9, 3) := by decide +kernel
theorem d_M_buying_19 : decode b_M_buying 19 = .ok (.iload_n 1, 1) := by decide +kernel
theorem d_M_buying_20 : decode b_M_buying 20 = .ok (.iload 5, 2) := by decide +kernel
theorem d_M_buying_22 : decode b_M_buying 22 = .ok (.if_icmp .ne 22, 3) := by decide +kernel
theorem d_M_buying_25 : decode b_M_buying 25 = .ok (.aload_n 0, 1) := by decide +kernel
theorem d_M_buying_26 : decode b_M_buying 26 = .ok (.getfield 13, 3) := by decide +kernel
theorem d_M_buying_29 : decode b_M_buying 29 = .ok (.bipush 50, 2) := by decide +kernel
theorem d_M_buying_31 : decode b_M_buying 31 = .ok (.iload 5, 2) := by decide +kernel
theorem d_M_buying_33 : decode b_M_buying 33 = .ok (.imul, 1) := by decide +kernel
theorem d_M_buying_34 : decode b_M_buying 34 = .ok (.iconst 5, 1) := by decide +kernel
theorem d_M_buying_35 : decode b_M_buying 35 = .ok (.iload_n 2, 1) := by decide +kernel
theorem d_M_buying_36 : decode b_M_buying 36 = .ok (.imul, 1) := by decide +kernel
theorem d_M_buying_37 : decode b_M_buying 37 = .ok (.iadd, 1) := by decide +kernel
theorem d_M_buying_38 : decode b_M_buying 38 = .ok (.iload_n 3, 1) := by decide +kernel
theorem d_M_buying_39 : decode b_M_buying 39 = .ok (.iadd, 1) := by decide +kernel
theorem d_M_buying_40 : decode b_M_buying 40 = .ok (.iaload, 1) := by decide +kernel
theorem d_M_buying_41 : decode b_M_buying 41 = .ok (.goto 4, 3) := by decide +kernel
theorem d_M_buying_44 : decode b_M_buying 44 = .ok (.iconst 0, 1) := by decide +kernel
theorem d_M_buying_45 : decode b_M_buying 45 = .ok (.iadd, 1) := by decide +kernel
theorem d_M_buying_46 : decode b_M_buying 46 = .ok (.istore 4, 2) := by decide +kernel
theorem d_M_buying_48 : decode b_M_buying 48 = .ok (.iinc 5 1, 3) := by decide +kernel
theorem d_M_buying_51 : decode b_M_buying 51 = .ok (.goto (-45), 3) := by decide +kernel
theorem d_M_buying_54 : decode b_M_buying 54 = .ok (.iload 4, 2) := by decide +kernel
theorem d_M_buying_56 : decode b_M_buying 56 = .ok (.ireturn, 1) := by decide +kernel
theorem d_M_costOf_0 : decode b_M_costOf 0 = .ok (.iconst 0, 1) := by decide +kernel
theorem d_M_costOf_1 : decode b_M_costOf 1 = .ok (.istore 5, 2) := by decide +kernel
theorem d_M_costOf_3 : decode b_M_costOf 3 = .ok (.iconst 0, 1) := by decide +kernel
theorem d_M_costOf_4 : decode b_M_costOf 4 = .ok (.istore 6, 2) := by decide +kernel
theorem d_M_costOf_6 : decode b_M_costOf 6 = .ok (.iconst 0, 1) := by decide +kernel
theorem d_M_costOf_7 : decode b_M_costOf 7 = .ok (.istore 7, 2) := by decide +kernel
theorem d_M_costOf_9 : decode b_M_costOf 9 = .ok (.iload 7, 2) := by decide +kernel
theorem d_M_costOf_11 : decode b_M_costOf 11 = .ok (.iconst 5, 1) := by decide +kernel
theorem d_M_costOf_12 : decode b_M_costOf 12 = .ok (.if_icmp .ge 77, 3) := by decide +kernel
theorem d_M_costOf_15 : decode b_M_costOf 15 = .ok (.iload 4, 2) := by decide +kernel
theorem d_M_costOf_17 : decode b_M_costOf 17 = .ok (.iload 7, 2) := by decide +kernel
theorem d_M_costOf_19 : decode b_M_costOf 19 = .ok (.ishr, 1) := by decide +kernel
theorem d_M_costOf_20 : decode b_M_costOf 20 = .ok (.iconst 1, 1) := by decide +kernel
theorem d_M_costOf_21 : decode b_M_costOf 21 = .ok (.iand, 1) := by decide +kernel
theorem d_M_costOf_22 : decode b_M_costOf 22 = .ok (.aload_n 0, 1) := by decide +kernel
theorem d_M_costOf_23 : decode b_M_costOf 23 = .ok (.iload_n 1, 1) := by decide +kernel
theorem d_M_costOf_24 : decode b_M_costOf 24 = .ok (.iload_n 3, 1) := by decide +kernel
theorem d_M_costOf_25 : decode b_M_costOf 25 = .ok (.iload 7, 2) := by decide +kernel
theorem d_M_costOf_27 : decode b_M_costOf 27 = .ok (.invokevirtual 111, 3) := by decide +kernel
theorem d_M_costOf_30 : decode b_M_costOf 30 = .ok (.imul, 1) := by decide +kernel
theorem d_M_costOf_31 : decode b_M_costOf 31 = .ok (.istore 8, 2) := by decide +kernel
theorem d_M_costOf_33 : decode b_M_costOf 33 = .ok (.iload 6, 2) := by decide +kernel
theorem d_M_costOf_35 : decode b_M_costOf 35 = .ok (.ifCond .ne 22, 3) := by decide +kernel
theorem d_M_costOf_38 : decode b_M_costOf 38 = .ok (.iload 8, 2) := by decide +kernel
theorem d_M_costOf_40 : decode b_M_costOf 40 = .ok (.ifCond .le 21, 3) := by decide +kernel
theorem d_M_costOf_43 : decode b_M_costOf 43 = .ok (.aload_n 0, 1) := by decide +kernel
theorem d_M_costOf_44 : decode b_M_costOf 44 = .ok (.getfield 7, 3) := by decide +kernel
theorem d_M_costOf_47 : decode b_M_costOf 47 = .ok (.iconst 5, 1) := by decide +kernel
theorem d_M_costOf_48 : decode b_M_costOf 48 = .ok (.iload_n 2, 1) := by decide +kernel
theorem d_M_costOf_49 : decode b_M_costOf 49 = .ok (.imul, 1) := by decide +kernel
theorem d_M_costOf_50 : decode b_M_costOf 50 = .ok (.iload 7, 2) := by decide +kernel
theorem d_M_costOf_52 : decode b_M_costOf 52 = .ok (.iadd, 1) := by decide +kernel
theorem d_M_costOf_53 : decode b_M_costOf 53 = .ok (.iaload, 1) := by decide +kernel
theorem d_M_costOf_54 : decode b_M_costOf 54 = .ok (.ifCond .ne 7, 3) := by decide +kernel
theorem d_M_costOf_57 : decode b_M_costOf 57 = .ok (.iconst 1, 1) := by decide +kernel
theorem d_M_costOf_58 : decode b_M_costOf 58 = .ok (.goto 4, 3) := by decide +kernel
theorem d_M_costOf_61 : decode b_M_costOf 61 = .ok (.iconst 0, 1) := by decide +kernel
theorem d_M_costOf_62 : decode b_M_costOf 62 = .ok (.istore 6, 2) := by decide +kernel
theorem d_M_costOf_64 : decode b_M_costOf 64 = .ok (.iload 5, 2) := by decide +kernel
theorem d_M_costOf_66 : decode b_M_costOf 66 = .ok (.aload_n 0, 1) := by decide +kernel
theorem d_M_costOf_67 : decode b_M_costOf 67 = .ok (.getfield 7, 3) := by decide +kernel
theorem d_M_costOf_70 : decode b_M_costOf 70 = .ok (.iconst 5, 1) := by decide +kernel
theorem d_M_costOf_71 : decode b_M_costOf 71 = .ok (.iload_n 2, 1) := by decide +kernel
theorem d_M_costOf_72 : decode b_M_costOf 72 = .ok (.imul, 1) := by decide +kernel
theorem d_M_costOf_73 : decode b_M_costOf 73 = .ok (.iload 7, 2) := by decide +kernel
theorem d_M_costOf_75 : decode b_M_costOf 75 = .ok (.iadd, 1) := by decide +kernel
theorem d_M_costOf_76 : decode b_M_costOf 76 = .ok (.iaload, 1) := by decide +kernel
theorem d_M_costOf_77 : decode b_M_costOf 77 = .ok (.iload 8, 2) := by decide +kernel
theorem d_M_costOf_79 : decode b_M_costOf 79 = .ok (.imul, 1) := by decide +kernel
theorem d_M_costOf_80 : decode b_M_costOf 80 = .ok (.iadd, 1) := by decide +kernel
theorem d_M_costOf_81 : decode b_M_costOf 81 = .ok (.istore 5, 2) := by decide +kernel
theorem d_M_costOf_83 : decode b_M_costOf 83 = .ok (.iinc 7 1, 3) := by decide +kernel
theorem d_M_costOf_86 : decode b_M_costOf 86 = .ok (.goto (-77), 3) := by decide +kernel
theorem d_M_costOf_89 : decode b_M_costOf 89 = .ok (.iload 6, 2) := by decide +kernel
theorem d_M_costOf_91 : decode b_M_costOf 91 = .ok (.ifCond .eq 7, 3) := by decide +kernel
theorem d_M_costOf_94 : decode b_M_costOf 94 = .ok (.iconst (-1), 1) := by decide +kernel
theorem d_M_costOf_95 : decode b_M_costOf 95 = .ok (.goto 5, 3) := by decide +kernel
theorem d_M_costOf_98 : decode b_M_costOf 98 = .ok (.iload 5, 2) := by decide +kernel
theorem d_M_costOf_100 : decode b_M_costOf 100 = .ok (.ireturn, 1) := by decide +kernel
theorem d_M_cost_0 : decode b_M_cost 0 = .ok (.iload_n 1, 1) := by decide +kernel
theorem d_M_cost_1 : decode b_M_cost 1 = .ok (.invokestatic 115, 3) := by decide +kernel
theorem d_M_cost_4 : decode b_M_cost 4 = .ok (.ifCond .eq 17, 3) := by decide +kernel
theorem d_M_cost_7 : decode b_M_cost 7 = .ok (.iload_n 2, 1) := by decide +kernel
theorem d_M_cost_8 : decode b_M_cost 8 = .ok (.invokestatic 98, 3) := by decide +kernel
theorem d_M_cost_11 : decode b_M_cost 11 = .ok (.ifCond .eq 10, 3) := by decide +kernel
theorem d_M_cost_14 : decode b_M_cost 14 = .ok (.iload_n 3, 1) := by decide +kernel
theorem d_M_cost_15 : decode b_M_cost 15 = .ok (.invokestatic 98, 3) := by decide +kernel
theorem d_M_cost_18 : decode b_M_cost 18 = .ok (.ifCond .ne 7, 3) := by decide +kernel
theorem d_M_cost_21 : decode b_M_cost 21 = .ok (.sipush (-1001), 3) := by decide +kernel
theorem d_M_cost_24 : decode b_M_cost 24 = .ok (.ireturn, 1) := by decide +kernel
theorem d_M_cost_25 : decode b_M_cost 25 = .ok (.aload_n 0, 1) := by decide +kernel
theorem d_M_cost_26 : decode b_M_cost 26 = .ok (.iload_n 1, 1) := by decide +kernel
theorem d_M_cost_27 : decode b_M_cost 27 = .ok (.iload_n 2, 1) := by decide +kernel
theorem d_M_cost_28 : decode b_M_cost 28 = .ok (.iload_n 3, 1) := by decide +kernel
theorem d_M_cost_29 : decode b_M_cost 29 = .ok (.bipush 31, 2) := by decide +kernel
theorem d_M_cost_31 : decode b_M_cost 31 = .ok (.invokevirtual 118, 3) := by decide +kernel
theorem d_M_cost_34 : decode b_M_cost 34 = .ok (.istore 4, 2) := by decide +kernel
theorem d_M_cost_36 : decode b_M_cost 36 = .ok (.iload 4, 2) := by decide +kernel
theorem d_M_cost_38 : decode b_M_cost 38 = .ok (.ifCond .ge 9, 3) := by decide +kernel
theorem d_M_cost_41 : decode b_M_cost 41 = .ok (.sipush (-1003), 3) := by decide +kernel
theorem d_M_cost_44 : decode b_M_cost 44 = .ok (.goto 5, 3) := by decide +kernel
theorem d_M_cost_47 : decode b_M_cost 47 = .ok (.iload 4, 2) := by decide +kernel
theorem d_M_cost_49 : decode b_M_cost 49 = .ok (.ireturn, 1) := by decide +kernel
theorem d_M_priced_0 : decode b_M_priced 0 = .ok (.iconst 0, 1) := by decide +kernel
theorem d_M_priced_1 : decode b_M_priced 1 = .ok (.istore_n 2, 1) := by decide +kernel
theorem d_M_priced_2 : decode b_M_priced 2 = .ok (.iconst 0, 1) := by decide +kernel
theorem d_M_priced_3 : decode b_M_priced 3 = .ok (.istore_n 3, 1) := by decide +kernel
theorem d_M_priced_4 : decode b_M_priced 4 = .ok (.iload_n 3, 1) := by decide +kernel
theorem d_M_priced_5 : decode b_M_priced 5 = .ok (.iconst 5, 1) := by decide +kernel
theorem d_M_priced_6 : decode b_M_priced 6 = .ok (.if_icmp .ge 32, 3) := by decide +kernel
theorem d_M_priced_9 : decode b_M_priced 9 = .ok (.iload_n 2, 1) := by decide +kernel
theorem d_M_priced_10 : decode b_M_priced 10 = .ok (.aload_n 0, 1) := by decide +kernel
theorem d_M_priced_11 : decode b_M_priced 11 = .ok (.getfield 7, 3) := by decide +kernel
theorem d_M_priced_14 : decode b_M_priced 14 = .ok (.iconst 5, 1) := by decide +kernel
theorem d_M_priced_15 : decode b_M_priced 15 = .ok (.iload_n 1, 1) := by decide +kernel
theorem d_M_priced_16 : decode b_M_priced 16 = .ok (.imul, 1) := by decide +kernel
theorem d_M_priced_17 : decode b_M_priced 17 = .ok (.iload_n 3, 1) := by decide +kernel
theorem d_M_priced_18 : decode b_M_priced 18 = .ok (.iadd, 1) := by decide +kernel
theorem d_M_priced_19 : decode b_M_priced 19 = .ok (.iaload, 1) := by decide +kernel
theorem d_M_priced_20 : decode b_M_priced 20 = .ok (.ifCond .le 9, 3) := by decide +kernel
theorem d_M_priced_23 : decode b_M_priced 23 = .ok (.iconst 1, 1) := by decide +kernel
theorem d_M_priced_24 : decode b_M_priced 24 = .ok (.iload_n 3, 1) := by decide +kernel
theorem d_M_priced_25 : decode b_M_priced 25 = .ok (.ishl, 1) := by decide +kernel
theorem d_M_priced_26 : decode b_M_priced 26 = .ok (.goto 4, 3) := by decide +kernel
theorem d_M_priced_29 : decode b_M_priced 29 = .ok (.iconst 0, 1) := by decide +kernel
theorem d_M_priced_30 : decode b_M_priced 30 = .ok (.ior, 1) := by decide +kernel
theorem d_M_priced_31 : decode b_M_priced 31 = .ok (.istore_n 2, 1) := by decide +kernel
theorem d_M_priced_32 : decode b_M_priced 32 = .ok (.iinc 3 1, 3) := by decide +kernel
theorem d_M_priced_35 : decode b_M_priced 35 = .ok (.goto (-31), 3) := by decide +kernel
theorem d_M_priced_38 : decode b_M_priced 38 = .ok (.iload_n 2, 1) := by decide +kernel
theorem d_M_priced_39 : decode b_M_priced 39 = .ok (.ireturn, 1) := by decide +kernel
theorem d_M_allGoods_0 : decode b_M_allGoods 0 = .ok (.iconst 0, 1) := by decide +kernel
theorem d_M_allGoods_1 : decode b_M_allGoods 1 = .ok (.istore_n 1, 1) := by decide +kernel
theorem d_M_allGoods_2 : decode b_M_allGoods 2 = .ok (.iconst 0, 1) := by decide +kernel
theorem d_M_allGoods_3 : decode b_M_allGoods 3 = .ok (.istore_n 2, 1) := by decide +kernel
theorem d_M_allGoods_4 : decode b_M_allGoods 4 = .ok (.iload_n 2, 1) := by decide +kernel
theorem d_M_allGoods_5 : decode b_M_allGoods 5 = .ok (.bipush 8, 2) := by decide +kernel
theorem d_M_allGoods_7 : decode b_M_allGoods 7 = .ok (.if_icmp .ge 17, 3) := by decide +kernel
theorem d_M_allGoods_10 : decode b_M_allGoods 10 = .ok (.iload_n 1, 1) := by decide +kernel
theorem d_M_allGoods_11 : decode b_M_allGoods 11 = .ok (.aload_n 0, 1) := by decide +kernel
theorem d_M_allGoods_12 : decode b_M_allGoods 12 = .ok (.iload_n 2, 1) := by decide +kernel
theorem d_M_allGoods_13 : decode b_M_allGoods 13 = .ok (.invokevirtual 122, 3) := by decide +kernel
theorem d_M_allGoods_16 : decode b_M_allGoods 16 = .ok (.ior, 1) := by decide +kernel
theorem d_M_allGoods_17 : decode b_M_allGoods 17 = .ok (.istore_n 1, 1) := by decide +kernel
theorem d_M_allGoods_18 : decode b_M_allGoods 18 = .ok (.iinc 2 1, 3) := by decide +kernel
theorem d_M_allGoods_21 : decode b_M_allGoods 21 = .ok (.goto (-17), 3) := by decide +kernel
theorem d_M_allGoods_24 : decode b_M_allGoods 24 = .ok (.iload_n 1, 1) := by decide +kernel
theorem d_M_allGoods_25 : decode b_M_allGoods 25 = .ok (.ireturn, 1) := by decide +kernel
theorem d_M_goods_0 : decode b_M_goods 0 = .ok (.iload_n 1, 1) := by decide +kernel
theorem d_M_goods_1 : decode b_M_goods 1 = .ok (.invokestatic 98, 3) := by decide +kernel
theorem d_M_goods_4 : decode b_M_goods 4 = .ok (.ifCond .eq 10, 3) := by decide +kernel
theorem d_M_goods_7 : decode b_M_goods 7 = .ok (.iload_n 2, 1) := by decide +kernel
theorem d_M_goods_8 : decode b_M_goods 8 = .ok (.invokestatic 98, 3) := by decide +kernel
theorem d_M_goods_11 : decode b_M_goods 11 = .ok (.ifCond .ne 7, 3) := by decide +kernel
theorem d_M_goods_14 : decode b_M_goods 14 = .ok (.sipush (-1001), 3) := by decide +kernel
theorem d_M_goods_17 : decode b_M_goods 17 = .ok (.ireturn, 1) := by decide +kernel
theorem d_M_goods_18 : decode b_M_goods 18 = .ok (.iload_n 3, 1) := by decide +kernel
theorem d_M_goods_19 : decode b_M_goods 19 = .ok (.i2l, 1) := by decide +kernel
theorem d_M_goods_20 : decode b_M_goods 20 = .ok (.lconst 0, 1) := by decide +kernel
theorem d_M_goods_21 : decode b_M_goods 21 = .ok (.ldc2_w 107, 3) := by decide +kernel
theorem d_M_goods_24 : decode b_M_goods 24 = .ok (.invokestatic 90, 3) := by decide +kernel
theorem d_M_goods_27 : decode b_M_goods 27 = .ok (.ifCond .ne 7, 3) := by decide +kernel
theorem d_M_goods_30 : decode b_M_goods 30 = .ok (.sipush (-1002), 3) := by decide +kernel
theorem d_M_goods_33 : decode b_M_goods 33 = .ok (.ireturn, 1) := by decide +kernel
theorem d_M_goods_34 : decode b_M_goods 34 = .ok (.iload_n 3, 1) := by decide +kernel
theorem d_M_goods_35 : decode b_M_goods 35 = .ok (.ifCond .ne 19, 3) := by decide +kernel
theorem d_M_goods_38 : decode b_M_goods 38 = .ok (.aload_n 0, 1) := by decide +kernel
theorem d_M_goods_39 : decode b_M_goods 39 = .ok (.iload_n 2, 1) := by decide +kernel
theorem d_M_goods_40 : decode b_M_goods 40 = .ok (.invokevirtual 122, 3) := by decide +kernel
theorem d_M_goods_43 : decode b_M_goods 43 = .ok (.aload_n 0, 1) := by decide +kernel
theorem d_M_goods_44 : decode b_M_goods 44 = .ok (.iload_n 1, 1) := by decide +kernel
theorem d_M_goods_45 : decode b_M_goods 45 = .ok (.invokevirtual 122, 3) := by decide +kernel
theorem d_M_goods_48 : decode b_M_goods 48 = .ok (.iconst (-1), 1) := by decide +kernel
theorem d_M_goods_49 : decode b_M_goods 49 = .ok (.ixor, 1) := by decide +kernel
theorem d_M_goods_50 : decode b_M_goods 50 = .ok (.iand, 1) := by decide +kernel
theorem d_M_goods_51 : decode b_M_goods 51 = .ok (.goto 28, 3) := by decide +kernel
theorem d_M_goods_54 : decode b_M_goods 54 = .ok (.iload_n 3, 1) := by decide +kernel
theorem d_M_goods_55 : decode b_M_goods 55 = .ok (.iconst 1, 1) := by decide +kernel
theorem d_M_goods_56 : decode b_M_goods 56 = .ok (.if_icmp .ne 19, 3) := by decide +kernel
theorem d_M_goods_59 : decode b_M_goods 59 = .ok (.aload_n 0, 1) := by decide +kernel
theorem d_M_goods_60 : decode b_M_goods 60 = .ok (.iload_n 1, 1) := by decide +kernel
theorem d_M_goods_61 : decode b_M_goods 61 = .ok (.invokevirtual 122, 3) := by decide +kernel
theorem d_M_goods_64 : decode b_M_goods 64 = .ok (.aload_n 0, 1) := by decide +kernel
theorem d_M_goods_65 : decode b_M_goods 65 = .ok (.iload_n 2, 1) := by decide +kernel
theorem d_M_goods_66 : decode b_M_goods 66 = .ok (.invokevirtual 122, 3) := by decide +kernel
theorem d_M_goods_69 : decode b_M_goods 69 = .ok (.iconst (-1), 1) := by decide +kernel
theorem d_M_goods_70 : decode b_M_goods 70 = .ok (.ixor, 1) := by decide +kernel
theorem d_M_goods_71 : decode b_M_goods 71 = .ok (.iand, 1) := by decide +kernel
theorem d_M_goods_72 : decode b_M_goods 72 = .ok (.goto 7, 3) := by decide +kernel
theorem d_M_goods_75 : decode b_M_goods 75 = .ok (.aload_n 0, 1) := by decide +kernel
theorem d_M_goods_76 : decode b_M_goods 76 = .ok (.invokevirtual 126, 3) := by decide +kernel
theorem d_M_goods_79 : decode b_M_goods 79 = .ok (.ireturn, 1) := by decide +kernel
theorem d_M_count_0 : decode b_M_count 0 = .ok (.iconst 0, 1) := by decide +kernel
theorem d_M_count_1 : decode b_M_count 1 = .ok (.istore_n 2, 1) := by decide +kernel
theorem d_M_count_2 : decode b_M_count 2 = .ok (.iconst 0, 1) := by decide +kernel
theorem d_M_count_3 : decode b_M_count 3 = .ok (.istore_n 3, 1) := by decide +kernel
theorem d_M_count_4 : decode b_M_count 4 = .ok (.iconst 0, 1) := by decide +kernel
theorem d_M_count_5 : decode b_M_count 5 = .ok (.istore 4, 2) := by decide +kernel
theorem d_M_count_7 : decode b_M_count 7 = .ok (.iconst 0, 1) := by decide +kernel
theorem d_M_count_8 : decode b_M_count 8 = .ok (.istore 5, 2) := by decide +kernel
theorem d_M_count_10 : decode b_M_count 10 = .ok (.iload 5, 2) := by decide +kernel
theorem d_M_count_12 : decode b_M_count 12 = .ok (.bipush 50, 2) := by decide +kernel
theorem d_M_count_14 : decode b_M_count 14 = .ok (.if_icmp .ge 27, 3) := by decide +kernel
theorem d_M_count_17 : decode b_M_count 17 = .ok (.iload_n 2, 1) := by decide +kernel
theorem d_M_count_18 : decode b_M_count 18 = .ok (.aload_n 0, 1) := by decide +kernel
theorem d_M_count_19 : decode b_M_count 19 = .ok (.getfield 7, 3) := by decide +kernel
theorem d_M_count_22 : decode b_M_count 22 = .ok (.iload 5, 2) := by decide +kernel
theorem d_M_count_24 : decode b_M_count 24 = .ok (.iaload, 1) := by decide +kernel
theorem d_M_count_25 : decode b_M_count 25 = .ok (.ifCond .le 7, 3) := by decide +kernel
theorem d_M_count_28 : decode b_M_count 28 = .ok (.iconst 1, 1) := by decide +kernel
theorem d_M_count_29 : decode b_M_count 29 = .ok (.goto 4, 3) := by decide +kernel
theorem d_M_count_32 : decode b_M_count 32 = .ok (.iconst 0, 1) := by decide +kernel
theorem d_M_count_33 : decode b_M_count 33 = .ok (.iadd, 1) := by decide +kernel
theorem d_M_count_34 : decode b_M_count 34 = .ok (.istore_n 2, 1) := by decide +kernel
theorem d_M_count_35 : decode b_M_count 35 = .ok (.iinc 5 1, 3) := by decide +kernel
theorem d_M_count_38 : decode b_M_count 38 = .ok (.goto (-28), 3) := by decide +kernel
theorem d_M_count_41 : decode b_M_count 41 = .ok (.iconst 0, 1) := by decide +kernel
theorem d_M_count_42 : decode b_M_count 42 = .ok (.istore 5, 2) := by decide +kernel
theorem d_M_count_44 : decode b_M_count 44 = .ok (.iload 5, 2) := by decide +kernel
theorem d_M_count_46 : decode b_M_count 46 = .ok (.iconst 5, 1) := by decide +kernel
theorem d_M_count_47 : decode b_M_count 47 = .ok (.if_icmp .ge 21, 3) := by decide +kernel
theorem d_M_count_50 : decode b_M_count 50 = .ok (.iload_n 3, 1) := by decide +kernel
theorem d_M_count_51 : decode b_M_count 51 = .ok (.aload_n 0, 1) := by decide +kernel
theorem d_M_count_52 : decode b_M_count 52 = .ok (.invokevirtual 126, 3) := by decide +kernel
theorem d_M_count_55 : decode b_M_count 55 = .ok (.iload 5, 2) := by decide +kernel
theorem d_M_count_57 : decode b_M_count 57 = .ok (.ishr, 1) := by decide +kernel
theorem d_M_count_58 : decode b_M_count 58 = .ok (.iconst 1, 1) := by decide +kernel
theorem d_M_count_59 : decode b_M_count 59 = .ok (.iand, 1) := by decide +kernel
theorem d_M_count_60 : decode b_M_count 60 = .ok (.iadd, 1) := by decide +kernel
theorem d_M_count_61 : decode b_M_count 61 = .ok (.istore_n 3, 1) := by decide +kernel
theorem d_M_count_62 : decode b_M_count 62 = .ok (.iinc 5 1, 3) := by decide +kernel
theorem d_M_count_65 : decode b_M_count 65 = .ok (.goto (-21), 3) := by decide +kernel
theorem d_M_count_68 : decode b_M_count 68 = .ok (.iconst 0, 1) := by decide +kernel
theorem d_M_count_69 : decode b_M_count 69 = .ok (.istore 5, 2) := by decide +kernel
theorem d_M_count_71 : decode b_M_count 71 = .ok (.iload 5, 2) := by decide +kernel
theorem d_M_count_73 : decode b_M_count 73 = .ok (.bipush 8, 2) := by decide +kernel
theorem d_M_count_75 : decode b_M_count 75 = .ok (.if_icmp .ge 28, 3) := by decide +kernel
theorem d_M_count_78 : decode b_M_count 78 = .ok (.iload 4, 2) := by decide +kernel
theorem d_M_count_80 : decode b_M_count 80 = .ok (.aload_n 0, 1) := by decide +kernel
theorem d_M_count_81 : decode b_M_count 81 = .ok (.iload 5, 2) := by decide +kernel
theorem d_M_count_83 : decode b_M_count 83 = .ok (.invokevirtual 122, 3) := by decide +kernel
theorem d_M_count_86 : decode b_M_count 86 = .ok (.ifCond .eq 7, 3) := by decide +kernel
theorem d_M_count_89 : decode b_M_count 89 = .ok (.iconst 1, 1) := by decide +kernel
theorem d_M_count_90 : decode b_M_count 90 = .ok (.goto 4, 3) := by decide +kernel
theorem d_M_count_93 : decode b_M_count 93 = .ok (.iconst 0, 1) := by decide +kernel
theorem d_M_count_94 : decode b_M_count 94 = .ok (.iadd, 1) := by decide +kernel
theorem d_M_count_95 : decode b_M_count 95 = .ok (.istore 4, 2) := by decide +kernel
theorem d_M_count_97 : decode b_M_count 97 = .ok (.iinc 5 1, 3) := by decide +kernel
theorem d_M_count_100 : decode b_M_count 100 = .ok (.goto (-29), 3) := by decide +kernel
theorem d_M_count_103 : decode b_M_count 103 = .ok (.iload_n 1, 1) := by decide +kernel
theorem d_M_count_104 : decode b_M_count 104 = .ok (.tableswitch 53 0 4 #[36, 41, 46, 48, 50], 36) := by decide +kernel
theorem d_M_count_140 : decode b_M_count 140 = .ok (.aload_n 0, 1) := by decide +kernel
theorem d_M_count_141 : decode b_M_count 141 = .ok (.getfield 130, 3) := by decide +kernel
theorem d_M_count_144 : decode b_M_count 144 = .ok (.ireturn, 1) := by decide +kernel
theorem d_M_count_145 : decode b_M_count 145 = .ok (.aload_n 0, 1) := by decide +kernel
theorem d_M_count_146 : decode b_M_count 146 = .ok (.getfield 133, 3) := by decide +kernel
theorem d_M_count_149 : decode b_M_count 149 = .ok (.ireturn, 1) := by decide +kernel
theorem d_M_count_150 : decode b_M_count 150 = .ok (.iload_n 2, 1) := by decide +kernel
theorem d_M_count_151 : decode b_M_count 151 = .ok (.ireturn, 1) := by decide +kernel
theorem d_M_count_152 : decode b_M_count 152 = .ok (.iload_n 3, 1) := by decide +kernel
theorem d_M_count_153 : decode b_M_count 153 = .ok (.ireturn, 1) := by decide +kernel
theorem d_M_count_154 : decode b_M_count 154 = .ok (.iload 4, 2) := by decide +kernel
theorem d_M_count_156 : decode b_M_count 156 = .ok (.ireturn, 1) := by decide +kernel
theorem d_M_count_157 : decode b_M_count 157 = .ok (.sipush (-1002), 3) := by decide +kernel
theorem d_M_count_160 : decode b_M_count 160 = .ok (.ireturn, 1) := by decide +kernel
theorem d_M_feed_0 : decode b_M_feed 0 = .ok (.iload_n 1, 1) := by decide +kernel
theorem d_M_feed_1 : decode b_M_feed 1 = .ok (.i2l, 1) := by decide +kernel
theorem d_M_feed_2 : decode b_M_feed 2 = .ok (.lconst 1, 1) := by decide +kernel
theorem d_M_feed_3 : decode b_M_feed 3 = .ok (.ldc2_w 136, 3) := by decide +kernel
theorem d_M_feed_6 : decode b_M_feed 6 = .ok (.invokestatic 90, 3) := by decide +kernel
theorem d_M_feed_9 : decode b_M_feed 9 = .ok (.ifCond .ne 7, 3) := by decide +kernel
theorem d_M_feed_12 : decode b_M_feed 12 = .ok (.sipush (-1002), 3) := by decide +kernel
theorem d_M_feed_15 : decode b_M_feed 15 = .ok (.ireturn, 1) := by decide +kernel
theorem d_M_feed_16 : decode b_M_feed 16 = .ok (.aload_n 0, 1) := by decide +kernel
theorem d_M_feed_17 : decode b_M_feed 17 = .ok (.getfield 133, 3) := by decide +kernel
theorem d_M_feed_20 : decode b_M_feed 20 = .ok (.iload_n 1, 1) := by decide +kernel
theorem d_M_feed_21 : decode b_M_feed 21 = .ok (.iadd, 1) := by decide +kernel
theorem d_M_feed_22 : decode b_M_feed 22 = .ok (.bipush 60, 2) := by decide +kernel
theorem d_M_feed_24 : decode b_M_feed 24 = .ok (.if_icmp .le 7, 3) := by decide +kernel
theorem d_M_feed_27 : decode b_M_feed 27 = .ok (.sipush (-1004), 3) := by decide +kernel
theorem d_M_feed_30 : decode b_M_feed 30 = .ok (.ireturn, 1) := by decide +kernel
theorem d_M_feed_31 : decode b_M_feed 31 = .ok (.iload_n 1, 1) := by decide +kernel
theorem d_M_feed_32 : decode b_M_feed 32 = .ok (.iconst 1, 1) := by decide +kernel
theorem d_M_feed_33 : decode b_M_feed 33 = .ok (.isub, 1) := by decide +kernel
theorem d_M_feed_34 : decode b_M_feed 34 = .ok (.istore 4, 2) := by decide +kernel
theorem d_M_feed_36 : decode b_M_feed 36 = .ok (.iload 4, 2) := by decide +kernel
theorem d_M_feed_38 : decode b_M_feed 38 = .ok (.ifCond .lt 40, 3) := by decide +kernel
theorem d_M_feed_41 : decode b_M_feed 41 = .ok (.aload_n 0, 1) := by decide +kernel
theorem d_M_feed_42 : decode b_M_feed 42 = .ok (.getfield 22, 3) := by decide +kernel
theorem d_M_feed_45 : decode b_M_feed 45 = .ok (.aload_n 0, 1) := by decide +kernel
theorem d_M_feed_46 : decode b_M_feed 46 = .ok (.getfield 133, 3) := by decide +kernel
theorem d_M_feed_49 : decode b_M_feed 49 = .ok (.lload_n 2, 1) := by decide +kernel
theorem d_M_feed_50 : decode b_M_feed 50 = .ok (.bipush 8, 2) := by decide +kernel
theorem d_M_feed_52 : decode b_M_feed 52 = .ok (.iload 4, 2) := by decide +kernel
theorem d_M_feed_54 : decode b_M_feed 54 = .ok (.imul, 1) := by decide +kernel
theorem d_M_feed_55 : decode b_M_feed 55 = .ok (.lshr, 1) := by decide +kernel
theorem d_M_feed_56 : decode b_M_feed 56 = .ok (.ldc2_w 138, 3) := by decide +kernel
theorem d_M_feed_59 : decode b_M_feed 59 = .ok (.land, 1) := by decide +kernel
theorem d_M_feed_60 : decode b_M_feed 60 = .ok (.l2i, 1) := by decide +kernel
theorem d_M_feed_61 : decode b_M_feed 61 = .ok (.iastore, 1) := by decide +kernel
theorem d_M_feed_62 : decode b_M_feed 62 = .ok (.aload_n 0, 1) := by decide +kernel
theorem d_M_feed_63 : decode b_M_feed 63 = .ok (.dup, 1) := by decide +kernel
theorem d_M_feed_64 : decode b_M_feed 64 = .ok (.getfield 133, 3) := by decide +kernel
theorem d_M_feed_67 : decode b_M_feed 67 = .ok (.iconst 1, 1) := by decide +kernel
theorem d_M_feed_68 : decode b_M_feed 68 = .ok (.iadd, 1) := by decide +kernel
theorem d_M_feed_69 : decode b_M_feed 69 = .ok (.putfield 133, 3) := by decide +kernel
theorem d_M_feed_72 : decode b_M_feed 72 = .ok (.iinc 4 (-1), 3) := by decide +kernel
theorem d_M_feed_75 : decode b_M_feed 75 = .ok (.goto (-39), 3) := by decide +kernel
theorem d_M_feed_78 : decode b_M_feed 78 = .ok (.aload_n 0, 1) := by decide +kernel
theorem d_M_feed_79 : decode b_M_feed 79 = .ok (.getfield 133, 3) := by decide +kernel
theorem d_M_feed_82 : decode b_M_feed 82 = .ok (.ireturn, 1) := by decide +kernel
theorem d_M_here_0 : decode b_M_here 0 = .ok (.aload_n 0, 1) := by decide +kernel
theorem d_M_here_1 : decode b_M_here 1 = .ok (.getfield 140, 3) := by decide +kernel
theorem d_M_here_4 : decode b_M_here 4 = .ok (.aload_n 0, 1) := by decide +kernel
theorem d_M_here_5 : decode b_M_here 5 = .ok (.getfield 133, 3) := by decide +kernel
theorem d_M_here_8 : decode b_M_here 8 = .ok (.if_icmp .ge 30, 3) := by decide +kernel
theorem d_M_here_11 : decode b_M_here 11 = .ok (.aload_n 0, 1) := by decide +kernel
theorem d_M_here_12 : decode b_M_here 12 = .ok (.getfield 22, 3) := by decide +kernel
theorem d_M_here_15 : decode b_M_here 15 = .ok (.aload_n 0, 1) := by decide +kernel
theorem d_M_here_16 : decode b_M_here 16 = .ok (.getfield 140, 3) := by decide +kernel
theorem d_M_here_19 : decode b_M_here 19 = .ok (.iaload, 1) := by decide +kernel
theorem d_M_here_20 : decode b_M_here 20 = .ok (.bipush 32, 2) := by decide +kernel
theorem d_M_here_22 : decode b_M_here 22 = .ok (.if_icmp .ne 16, 3) := by decide +kernel
theorem d_M_here_25 : decode b_M_here 25 = .ok (.aload_n 0, 1) := by decide +kernel
theorem d_M_here_26 : decode b_M_here 26 = .ok (.dup, 1) := by decide +kernel
theorem d_M_here_27 : decode b_M_here 27 = .ok (.getfield 140, 3) := by decide +kernel
theorem d_M_here_30 : decode b_M_here 30 = .ok (.iconst 1, 1) := by decide +kernel
theorem d_M_here_31 : decode b_M_here 31 = .ok (.iadd, 1) := by decide +kernel
theorem d_M_here_32 : decode b_M_here 32 = .ok (.putfield 140, 3) := by decide +kernel
theorem d_M_here_35 : decode b_M_here 35 = .ok (.goto (-35), 3) := by decide +kernel
theorem d_M_here_38 : decode b_M_here 38 = .ok (.aload_n 0, 1) := by decide +kernel
theorem d_M_here_39 : decode b_M_here 39 = .ok (.getfield 140, 3) := by decide +kernel
theorem d_M_here_42 : decode b_M_here 42 = .ok (.aload_n 0, 1) := by decide +kernel
theorem d_M_here_43 : decode b_M_here 43 = .ok (.getfield 133, 3) := by decide +kernel
theorem d_M_here_46 : decode b_M_here 46 = .ok (.if_icmp .ge 15, 3) := by decide +kernel
theorem d_M_here_49 : decode b_M_here 49 = .ok (.aload_n 0, 1) := by decide +kernel
theorem d_M_here_50 : decode b_M_here 50 = .ok (.getfield 22, 3) := by decide +kernel
theorem d_M_here_53 : decode b_M_here 53 = .ok (.aload_n 0, 1) := by decide +kernel
theorem d_M_here_54 : decode b_M_here 54 = .ok (.getfield 140, 3) := by decide +kernel
theorem d_M_here_57 : decode b_M_here 57 = .ok (.iaload, 1) := by decide +kernel
theorem d_M_here_58 : decode b_M_here 58 = .ok (.goto 4, 3) := by decide +kernel
theorem d_M_here_61 : decode b_M_here 61 = .ok (.iconst (-1), 1) := by decide +kernel
theorem d_M_here_62 : decode b_M_here 62 = .ok (.ireturn, 1) := by decide +kernel
theorem d_M_fails_0 : decode b_M_fails 0 = .ok (.aload_n 0, 1) := by decide +kernel
theorem d_M_fails_1 : decode b_M_fails 1 = .ok (.iload_n 2, 1) := by decide +kernel
theorem d_M_fails_2 : decode b_M_fails 2 = .ok (.putfield 25, 3) := by decide +kernel
theorem d_M_fails_5 : decode b_M_fails 5 = .ok (.iload_n 1, 1) := by decide +kernel
theorem d_M_fails_6 : decode b_M_fails 6 = .ok (.ireturn, 1) := by decide +kernel
theorem d_M_sign_0 : decode b_M_sign 0 = .ok (.aload_n 0, 1) := by decide +kernel
theorem d_M_sign_1 : decode b_M_sign 1 = .ok (.invokevirtual 143, 3) := by decide +kernel
theorem d_M_sign_4 : decode b_M_sign 4 = .ok (.iload_n 1, 1) := by decide +kernel
theorem d_M_sign_5 : decode b_M_sign 5 = .ok (.if_icmp .eq 13, 3) := by decide +kernel
theorem d_M_sign_8 : decode b_M_sign 8 = .ok (.aload_n 0, 1) := by decide +kernel
theorem d_M_sign_9 : decode b_M_sign 9 = .ok (.iconst 1, 1) := by decide +kernel
theorem d_M_sign_10 : decode b_M_sign 10 = .ok (.aload_n 0, 1) := by decide +kernel
theorem d_M_sign_11 : decode b_M_sign 11 = .ok (.getfield 140, 3) := by decide +kernel
theorem d_M_sign_14 : decode b_M_sign 14 = .ok (.invokevirtual 146, 3) := by decide +kernel
theorem d_M_sign_17 : decode b_M_sign 17 = .ok (.ireturn, 1) := by decide +kernel
theorem d_M_sign_18 : decode b_M_sign 18 = .ok (.aload_n 0, 1) := by decide +kernel
theorem d_M_sign_19 : decode b_M_sign 19 = .ok (.dup, 1) := by decide +kernel
theorem d_M_sign_20 : decode b_M_sign 20 = .ok (.getfield 140, 3) := by decide +kernel
theorem d_M_sign_23 : decode b_M_sign 23 = .ok (.iconst 1, 1) := by decide +kernel
theorem d_M_sign_24 : decode b_M_sign 24 = .ok (.iadd, 1) := by decide +kernel
theorem d_M_sign_25 : decode b_M_sign 25 = .ok (.putfield 140, 3) := by decide +kernel
theorem d_M_sign_28 : decode b_M_sign 28 = .ok (.iconst 0, 1) := by decide +kernel
theorem d_M_sign_29 : decode b_M_sign 29 = .ok (.ireturn, 1) := by decide +kernel
theorem d_M_code_0 : decode b_M_code 0 = .ok (.ldc2_w 150, 3) := by decide +kernel
theorem d_M_code_3 : decode b_M_code 3 = .ok (.iload_n 0, 1) := by decide +kernel
theorem d_M_code_4 : decode b_M_code 4 = .ok (.i2l, 1) := by decide +kernel
theorem d_M_code_5 : decode b_M_code 5 = .ok (.ldc2_w 152, 3) := by decide +kernel
theorem d_M_code_8 : decode b_M_code 8 = .ok (.lsub, 1) := by decide +kernel
theorem d_M_code_9 : decode b_M_code 9 = .ok (.lmul, 1) := by decide +kernel
theorem d_M_code_10 : decode b_M_code 10 = .ok (.iload_n 1, 1) := by decide +kernel
theorem d_M_code_11 : decode b_M_code 11 = .ok (.i2l, 1) := by decide +kernel
theorem d_M_code_12 : decode b_M_code 12 = .ok (.ladd, 1) := by decide +kernel
theorem d_M_code_13 : decode b_M_code 13 = .ok (.ldc2_w 152, 3) := by decide +kernel
theorem d_M_code_16 : decode b_M_code 16 = .ok (.lsub, 1) := by decide +kernel
theorem d_M_code_17 : decode b_M_code 17 = .ok (.lstore 5, 2) := by decide +kernel
theorem d_M_code_19 : decode b_M_code 19 = .ok (.iload_n 2, 1) := by decide +kernel
theorem d_M_code_20 : decode b_M_code 20 = .ok (.ifCond .ne 8, 3) := by decide +kernel
theorem d_M_code_23 : decode b_M_code 23 = .ok (.lload 5, 2) := by decide +kernel
theorem d_M_code_25 : decode b_M_code 25 = .ok (.goto 16, 3) := by decide +kernel
theorem d_M_code_28 : decode b_M_code 28 = .ok (.ldc2_w 150, 3) := by decide +kernel
theorem d_M_code_31 : decode b_M_code 31 = .ok (.lload 5, 2) := by decide +kernel
theorem d_M_code_33 : decode b_M_code 33 = .ok (.lmul, 1) := by decide +kernel
theorem d_M_code_34 : decode b_M_code 34 = .ok (.iload_n 2, 1) := by decide +kernel
theorem d_M_code_35 : decode b_M_code 35 = .ok (.i2l, 1) := by decide +kernel
theorem d_M_code_36 : decode b_M_code 36 = .ok (.ladd, 1) := by decide +kernel
theorem d_M_code_37 : decode b_M_code 37 = .ok (.ldc2_w 152, 3) := by decide +kernel
theorem d_M_code_40 : decode b_M_code 40 = .ok (.lsub, 1) := by decide +kernel
theorem d_M_code_41 : decode b_M_code 41 = .ok (.lstore 5, 2) := by decide +kernel
theorem d_M_code_43 : decode b_M_code 43 = .ok (.iload_n 3, 1) := by decide +kernel
theorem d_M_code_44 : decode b_M_code 44 = .ok (.ifCond .ne 8, 3) := by decide +kernel
theorem d_M_code_47 : decode b_M_code 47 = .ok (.lload 5, 2) := by decide +kernel
theorem d_M_code_49 : decode b_M_code 49 = .ok (.goto 16, 3) := by decide +kernel
theorem d_M_code_52 : decode b_M_code 52 = .ok (.ldc2_w 150, 3) := by decide +kernel
theorem d_M_code_55 : decode b_M_code 55 = .ok (.lload 5, 2) := by decide +kernel
theorem d_M_code_57 : decode b_M_code 57 = .ok (.lmul, 1) := by decide +kernel
theorem d_M_code_58 : decode b_M_code 58 = .ok (.iload_n 3, 1) := by decide +kernel
theorem d_M_code_59 : decode b_M_code 59 = .ok (.i2l, 1) := by decide +kernel
theorem d_M_code_60 : decode b_M_code 60 = .ok (.ladd, 1) := by decide +kernel
theorem d_M_code_61 : decode b_M_code 61 = .ok (.ldc2_w 152, 3) := by decide +kernel
theorem d_M_code_64 : decode b_M_code 64 = .ok (.lsub, 1) := by decide +kernel
theorem d_M_code_65 : decode b_M_code 65 = .ok (.lstore 5, 2) := by decide +kernel
theorem d_M_code_67 : decode b_M_code 67 = .ok (.iload 4, 2) := by decide +kernel
theorem d_M_code_69 : decode b_M_code 69 = .ok (.ifCond .ne 8, 3) := by decide +kernel
theorem d_M_code_72 : decode b_M_code 72 = .ok (.lload 5, 2) := by decide +kernel
theorem d_M_code_74 : decode b_M_code 74 = .ok (.goto 17, 3) := by decide +kernel
theorem d_M_code_77 : decode b_M_code 77 = .ok (.ldc2_w 150, 3) := by decide +kernel
theorem d_M_code_80 : decode b_M_code 80 = .ok (.lload 5, 2) := by decide +kernel
theorem d_M_code_82 : decode b_M_code 82 = .ok (.lmul, 1) := by decide +kernel
theorem d_M_code_83 : decode b_M_code 83 = .ok (.iload 4, 2) := by decide +kernel
theorem d_M_code_85 : decode b_M_code 85 = .ok (.i2l, 1) := by decide +kernel
theorem d_M_code_86 : decode b_M_code 86 = .ok (.ladd, 1) := by decide +kernel
theorem d_M_code_87 : decode b_M_code 87 = .ok (.ldc2_w 152, 3) := by decide +kernel
theorem d_M_code_90 : decode b_M_code 90 = .ok (.lsub, 1) := by decide +kernel
theorem d_M_code_91 : decode b_M_code 91 = .ok (.lreturn, 1) := by decide +kernel
theorem d_M_readKind_0 : decode b_M_readKind 0 = .ok (.aload_n 0, 1) := by decide +kernel
theorem d_M_readKind_1 : decode b_M_readKind 1 = .ok (.invokevirtual 143, 3) := by decide +kernel
theorem d_M_readKind_4 : decode b_M_readKind 4 = .ok (.istore_n 1, 1) := by decide +kernel
theorem d_M_readKind_5 : decode b_M_readKind 5 = .ok (.lconst 0, 1) := by decide +kernel
theorem d_M_readKind_6 : decode b_M_readKind 6 = .ok (.lstore_n 2, 1) := by decide +kernel
theorem d_M_readKind_7 : decode b_M_readKind 7 = .ok (.aload_n 0, 1) := by decide +kernel
theorem d_M_readKind_8 : decode b_M_readKind 8 = .ok (.aload_n 0, 1) := by decide +kernel
theorem d_M_readKind_9 : decode b_M_readKind 9 = .ok (.getfield 140, 3) := by decide +kernel
theorem d_M_readKind_12 : decode b_M_readKind 12 = .ok (.putfield 154, 3) := by decide +kernel
theorem d_M_readKind_15 : decode b_M_readKind 15 = .ok (.aload_n 0, 1) := by decide +kernel
theorem d_M_readKind_16 : decode b_M_readKind 16 = .ok (.getfield 154, 3) := by decide +kernel
theorem d_M_readKind_19 : decode b_M_readKind 19 = .ok (.aload_n 0, 1) := by decide +kernel
theorem d_M_readKind_20 : decode b_M_readKind 20 = .ok (.getfield 133, 3) := by decide +kernel
theorem d_M_readKind_23 : decode b_M_readKind 23 = .ok (.if_icmp .ge 73, 3) := by decide +kernel
theorem d_M_readKind_26 : decode b_M_readKind 26 = .ok (.aload_n 0, 1) := by decide +kernel
theorem d_M_readKind_27 : decode b_M_readKind 27 = .ok (.getfield 22, 3) := by decide +kernel
theorem d_M_readKind_30 : decode b_M_readKind 30 = .ok (.aload_n 0, 1) := by decide +kernel
theorem d_M_readKind_31 : decode b_M_readKind 31 = .ok (.getfield 154, 3) := by decide +kernel
theorem d_M_readKind_34 : decode b_M_readKind 34 = .ok (.iaload, 1) := by decide +kernel
theorem d_M_readKind_35 : decode b_M_readKind 35 = .ok (.i2l, 1) := by decide +kernel
theorem d_M_readKind_36 : decode b_M_readKind 36 = .ok (.ldc2_w 157, 3) := by decide +kernel
theorem d_M_readKind_39 : decode b_M_readKind 39 = .ok (.ldc2_w 159, 3) := by decide +kernel
theorem d_M_readKind_42 : decode b_M_readKind 42 = .ok (.invokestatic 90, 3) := by decide +kernel
theorem d_M_readKind_45 : decode b_M_readKind 45 = .ok (.ifCond .eq 51, 3) := by decide +kernel
theorem d_M_readKind_48 : decode b_M_readKind 48 = .ok (.lload_n 2, 1) := by decide +kernel
theorem d_M_readKind_49 : decode b_M_readKind 49 = .ok (.ldc2_w 161, 3) := by decide +kernel
theorem d_M_readKind_52 : decode b_M_readKind 52 = .ok (.lcmp, 1) := by decide +kernel
theorem d_M_readKind_53 : decode b_M_readKind 53 = .ok (.ifCond .le 9, 3) := by decide +kernel
theorem d_M_readKind_56 : decode b_M_readKind 56 = .ok (.ldc2_w 163, 3) := by decide +kernel
theorem d_M_readKind_59 : decode b_M_readKind 59 = .ok (.goto 23, 3) := by decide +kernel
theorem d_M_readKind_62 : decode b_M_readKind 62 = .ok (.ldc2_w 150, 3) := by decide +kernel
theorem d_M_readKind_65 : decode b_M_readKind 65 = .ok (.lload_n 2, 1) := by decide +kernel
theorem d_M_readKind_66 : decode b_M_readKind 66 = .ok (.lmul, 1) := by decide +kernel
theorem d_M_readKind_67 : decode b_M_readKind 67 = .ok (.aload_n 0, 1) := by decide +kernel
theorem d_M_readKind_68 : decode b_M_readKind 68 = .ok (.getfield 22, 3) := by decide +kernel
theorem d_M_readKind_71 : decode b_M_readKind 71 = .ok (.aload_n 0, 1) := by decide +kernel
theorem d_M_readKind_72 : decode b_M_readKind 72 = .ok (.getfield 154, 3) := by decide +kernel
theorem d_M_readKind_75 : decode b_M_readKind 75 = .ok (.iaload, 1) := by decide +kernel
theorem d_M_readKind_76 : decode b_M_readKind 76 = .ok (.i2l, 1) := by decide +kernel
theorem d_M_readKind_77 : decode b_M_readKind 77 = .ok (.ladd, 1) := by decide +kernel
theorem d_M_readKind_78 : decode b_M_readKind 78 = .ok (.ldc2_w 152, 3) := by decide +kernel
theorem d_M_readKind_81 : decode b_M_readKind 81 = .ok (.lsub, 1) := by decide +kernel
theorem d_M_readKind_82 : decode b_M_readKind 82 = .ok (.lstore_n 2, 1) := by decide +kernel
theorem d_M_readKind_83 : decode b_M_readKind 83 = .ok (.aload_n 0, 1) := by decide +kernel
theorem d_M_readKind_84 : decode b_M_readKind 84 = .ok (.dup, 1) := by decide +kernel
theorem d_M_readKind_85 : decode b_M_readKind 85 = .ok (.getfield 154, 3) := by decide +kernel
theorem d_M_readKind_88 : decode b_M_readKind 88 = .ok (.iconst 1, 1) := by decide +kernel
theorem d_M_readKind_89 : decode b_M_readKind 89 = .ok (.iadd, 1) := by decide +kernel
theorem d_M_readKind_90 : decode b_M_readKind 90 = .ok (.putfield 154, 3) := by decide +kernel
theorem d_M_readKind_93 : decode b_M_readKind 93 = .ok (.goto (-78), 3) := by decide +kernel
theorem d_M_readKind_96 : decode b_M_readKind 96 = .ok (.lload_n 2, 1) := by decide +kernel
theorem d_M_readKind_97 : decode b_M_readKind 97 = .ok (.bipush 111, 2) := by decide +kernel
theorem d_M_readKind_99 : decode b_M_readKind 99 = .ok (.bipush 108, 2) := by decide +kernel
theorem d_M_readKind_101 : decode b_M_readKind 101 = .ok (.bipush 100, 2) := by decide +kernel
theorem d_M_readKind_103 : decode b_M_readKind 103 = .ok (.iconst 0, 1) := by decide +kernel
theorem d_M_readKind_104 : decode b_M_readKind 104 = .ok (.iconst 0, 1) := by decide +kernel
theorem d_M_readKind_105 : decode b_M_readKind 105 = .ok (.invokestatic 165, 3) := by decide +kernel
theorem d_M_readKind_108 : decode b_M_readKind 108 = .ok (.lcmp, 1) := by decide +kernel
theorem d_M_readKind_109 : decode b_M_readKind 109 = .ok (.ifCond .ne 7, 3) := by decide +kernel
theorem d_M_readKind_112 : decode b_M_readKind 112 = .ok (.iconst 0, 1) := by decide +kernel
theorem d_M_readKind_113 : decode b_M_readKind 113 = .ok (.goto 106, 3) := by decide +kernel
theorem d_M_readKind_116 : decode b_M_readKind 116 = .ok (.lload_n 2, 1) := by decide +kernel
theorem d_M_readKind_117 : decode b_M_readKind 117 = .ok (.bipush 110, 2) := by decide +kernel
theorem d_M_readKind_119 : decode b_M_readKind 119 = .ok (.bipush 101, 2) := by decide +kernel
theorem d_M_readKind_121 : decode b_M_readKind 121 = .ok (.bipush 119, 2) := by decide +kernel
theorem d_M_readKind_123 : decode b_M_readKind 123 = .ok (.iconst 0, 1) := by decide +kernel
theorem d_M_readKind_124 : decode b_M_readKind 124 = .ok (.iconst 0, 1) := by decide +kernel
theorem d_M_readKind_125 : decode b_M_readKind 125 = .ok (.invokestatic 165, 3) := by decide +kernel
theorem d_M_readKind_128 : decode b_M_readKind 128 = .ok (.lcmp, 1) := by decide +kernel
theorem d_M_readKind_129 : decode b_M_readKind 129 = .ok (.ifCond .ne 7, 3) := by decide +kernel
theorem d_M_readKind_132 : decode b_M_readKind 132 = .ok (.iconst 1, 1) := by decide +kernel
theorem d_M_readKind_133 : decode b_M_readKind 133 = .ok (.goto 86, 3) := by decide +kernel
theorem d_M_readKind_136 : decode b_M_readKind 136 = .ok (.lload_n 2, 1) := by decide +kernel
theorem d_M_readKind_137 : decode b_M_readKind 137 = .ok (.bipush 109, 2) := by decide +kernel
theorem d_M_readKind_139 : decode b_M_readKind 139 = .ok (.bipush 105, 2) := by decide +kernel
theorem d_M_readKind_141 : decode b_M_readKind 141 = .ok (.bipush 100, 2) := by decide +kernel
theorem d_M_readKind_143 : decode b_M_readKind 143 = .ok (.iconst 0, 1) := by decide +kernel
theorem d_M_readKind_144 : decode b_M_readKind 144 = .ok (.iconst 0, 1) := by decide +kernel
theorem d_M_readKind_145 : decode b_M_readKind 145 = .ok (.invokestatic 165, 3) := by decide +kernel
theorem d_M_readKind_148 : decode b_M_readKind 148 = .ok (.lcmp, 1) := by decide +kernel
theorem d_M_readKind_149 : decode b_M_readKind 149 = .ok (.ifCond .ne 7, 3) := by decide +kernel
theorem d_M_readKind_152 : decode b_M_readKind 152 = .ok (.iconst 2, 1) := by decide +kernel
theorem d_M_readKind_153 : decode b_M_readKind 153 = .ok (.goto 66, 3) := by decide +kernel
theorem d_M_readKind_156 : decode b_M_readKind 156 = .ok (.lload_n 2, 1) := by decide +kernel
theorem d_M_readKind_157 : decode b_M_readKind 157 = .ok (.bipush 97, 2) := by decide +kernel
theorem d_M_readKind_159 : decode b_M_readKind 159 = .ok (.bipush 116, 2) := by decide +kernel
theorem d_M_readKind_161 : decode b_M_readKind 161 = .ok (.iconst 0, 1) := by decide +kernel
theorem d_M_readKind_162 : decode b_M_readKind 162 = .ok (.iconst 0, 1) := by decide +kernel
theorem d_M_readKind_163 : decode b_M_readKind 163 = .ok (.iconst 0, 1) := by decide +kernel
theorem d_M_readKind_164 : decode b_M_readKind 164 = .ok (.invokestatic 165, 3) := by decide +kernel
theorem d_M_readKind_167 : decode b_M_readKind 167 = .ok (.lcmp, 1) := by decide +kernel
theorem d_M_readKind_168 : decode b_M_readKind 168 = .ok (.ifCond .ne 7, 3) := by decide +kernel
theorem d_M_readKind_171 : decode b_M_readKind 171 = .ok (.iconst 3, 1) := by decide +kernel
theorem d_M_readKind_172 : decode b_M_readKind 172 = .ok (.goto 47, 3) := by decide +kernel
theorem d_M_readKind_175 : decode b_M_readKind 175 = .ok (.lload_n 2, 1) := by decide +kernel
theorem d_M_readKind_176 : decode b_M_readKind 176 = .ok (.bipush 112, 2) := by decide +kernel
theorem d_M_readKind_178 : decode b_M_readKind 178 = .ok (.bipush 108, 2) := by decide +kernel
theorem d_M_readKind_180 : decode b_M_readKind 180 = .ok (.bipush 97, 2) := by decide +kernel
theorem d_M_readKind_182 : decode b_M_readKind 182 = .ok (.bipush 105, 2) := by decide +kernel
theorem d_M_readKind_184 : decode b_M_readKind 184 = .ok (.bipush 110, 2) := by decide +kernel
theorem d_M_readKind_186 : decode b_M_readKind 186 = .ok (.invokestatic 165, 3) := by decide +kernel
theorem d_M_readKind_189 : decode b_M_readKind 189 = .ok (.lcmp, 1) := by decide +kernel
theorem d_M_readKind_190 : decode b_M_readKind 190 = .ok (.ifCond .ne 7, 3) := by decide +kernel
theorem d_M_readKind_193 : decode b_M_readKind 193 = .ok (.iconst 4, 1) := by decide +kernel
theorem d_M_readKind_194 : decode b_M_readKind 194 = .ok (.goto 25, 3) := by decide +kernel
theorem d_M_readKind_197 : decode b_M_readKind 197 = .ok (.lload_n 2, 1) := by decide +kernel
theorem d_M_readKind_198 : decode b_M_readKind 198 = .ok (.bipush 115, 2) := by decide +kernel
theorem d_M_readKind_200 : decode b_M_readKind 200 = .ok (.bipush 117, 2) := by decide +kernel
theorem d_M_readKind_202 : decode b_M_readKind 202 = .ok (.bipush 109, 2) := by decide +kernel
theorem d_M_readKind_204 : decode b_M_readKind 204 = .ok (.bipush 115, 2) := by decide +kernel
theorem d_M_readKind_206 : decode b_M_readKind 206 = .ok (.iconst 0, 1) := by decide +kernel
theorem d_M_readKind_207 : decode b_M_readKind 207 = .ok (.invokestatic 165, 3) := by decide +kernel
theorem d_M_readKind_210 : decode b_M_readKind 210 = .ok (.lcmp, 1) := by decide +kernel
theorem d_M_readKind_211 : decode b_M_readKind 211 = .ok (.ifCond .ne 7, 3) := by decide +kernel
theorem d_M_readKind_214 : decode b_M_readKind 214 = .ok (.iconst 5, 1) := by decide +kernel
theorem d_M_readKind_215 : decode b_M_readKind 215 = .ok (.goto 4, 3) := by decide +kernel
theorem d_M_readKind_218 : decode b_M_readKind 218 = .ok (.iconst (-1), 1) := by decide +kernel
theorem d_M_readKind_219 : decode b_M_readKind 219 = .ok (.istore 4, 2) := by decide +kernel
theorem d_M_readKind_221 : decode b_M_readKind 221 = .ok (.lload_n 2, 1) := by decide +kernel
theorem d_M_readKind_222 : decode b_M_readKind 222 = .ok (.bipush 114, 2) := by decide +kernel
theorem d_M_readKind_224 : decode b_M_readKind 224 = .ok (.bipush 111, 2) := by decide +kernel
theorem d_M_readKind_226 : decode b_M_readKind 226 = .ok (.bipush 111, 2) := by decide +kernel
theorem d_M_readKind_228 : decode b_M_readKind 228 = .ok (.bipush 116, 2) := by decide +kernel
theorem d_M_readKind_230 : decode b_M_readKind 230 = .ok (.iconst 0, 1) := by decide +kernel
theorem d_M_readKind_231 : decode b_M_readKind 231 = .ok (.invokestatic 165, 3) := by decide +kernel
theorem d_M_readKind_234 : decode b_M_readKind 234 = .ok (.lcmp, 1) := by decide +kernel
theorem d_M_readKind_235 : decode b_M_readKind 235 = .ok (.ifCond .ne 8, 3) := by decide +kernel
theorem d_M_readKind_238 : decode b_M_readKind 238 = .ok (.bipush 6, 2) := by decide +kernel
theorem d_M_readKind_240 : decode b_M_readKind 240 = .ok (.goto 71, 3) := by decide +kernel
theorem d_M_readKind_243 : decode b_M_readKind 243 = .ok (.lload_n 2, 1) := by decide +kernel
theorem d_M_readKind_244 : decode b_M_readKind 244 = .ok (.bipush 109, 2) := by decide +kernel
theorem d_M_readKind_246 : decode b_M_readKind 246 = .ok (.bipush 101, 2) := by decide +kernel
theorem d_M_readKind_248 : decode b_M_readKind 248 = .ok (.bipush 97, 2) := by decide +kernel
theorem d_M_readKind_250 : decode b_M_readKind 250 = .ok (.bipush 110, 2) := by decide +kernel
theorem d_M_readKind_252 : decode b_M_readKind 252 = .ok (.iconst 0, 1) := by decide +kernel
theorem d_M_readKind_253 : decode b_M_readKind 253 = .ok (.invokestatic 165, 3) := by decide +kernel
theorem d_M_readKind_256 : decode b_M_readKind 256 = .ok (.lcmp, 1) := by decide +kernel
theorem d_M_readKind_257 : decode b_M_readKind 257 = .ok (.ifCond .ne 8, 3) := by decide +kernel
theorem d_M_readKind_260 : decode b_M_readKind 260 = .ok (.bipush 7, 2) := by decide +kernel
theorem d_M_readKind_262 : decode b_M_readKind 262 = .ok (.goto 49, 3) := by decide +kernel
theorem d_M_readKind_265 : decode b_M_readKind 265 = .ok (.lload_n 2, 1) := by decide +kernel
theorem d_M_readKind_266 : decode b_M_readKind 266 = .ok (.bipush 108, 2) := by decide +kernel
theorem d_M_readKind_268 : decode b_M_readKind 268 = .ok (.bipush 101, 2) := by decide +kernel
theorem d_M_readKind_270 : decode b_M_readKind 270 = .ok (.bipush 97, 2) := by decide +kernel
theorem d_M_readKind_272 : decode b_M_readKind 272 = .ok (.bipush 115, 2) := by decide +kernel
theorem d_M_readKind_274 : decode b_M_readKind 274 = .ok (.bipush 116, 2) := by decide +kernel
theorem d_M_readKind_276 : decode b_M_readKind 276 = .ok (.invokestatic 165, 3) := by decide +kernel
theorem d_M_readKind_279 : decode b_M_readKind 279 = .ok (.lcmp, 1) := by decide +kernel
theorem d_M_readKind_280 : decode b_M_readKind 280 = .ok (.ifCond .ne 8, 3) := by decide +kernel
theorem d_M_readKind_283 : decode b_M_readKind 283 = .ok (.bipush 8, 2) := by decide +kernel
theorem d_M_readKind_285 : decode b_M_readKind 285 = .ok (.goto 26, 3) := by decide +kernel
theorem d_M_readKind_288 : decode b_M_readKind 288 = .ok (.lload_n 2, 1) := by decide +kernel
theorem d_M_readKind_289 : decode b_M_readKind 289 = .ok (.bipush 109, 2) := by decide +kernel
theorem d_M_readKind_291 : decode b_M_readKind 291 = .ok (.bipush 111, 2) := by decide +kernel
theorem d_M_readKind_293 : decode b_M_readKind 293 = .ok (.bipush 115, 2) := by decide +kernel
theorem d_M_readKind_295 : decode b_M_readKind 295 = .ok (.bipush 116, 2) := by decide +kernel
theorem d_M_readKind_297 : decode b_M_readKind 297 = .ok (.iconst 0, 1) := by decide +kernel
theorem d_M_readKind_298 : decode b_M_readKind 298 = .ok (.invokestatic 165, 3) := by decide +kernel
theorem d_M_readKind_301 : decode b_M_readKind 301 = .ok (.lcmp, 1) := by decide +kernel
theorem d_M_readKind_302 : decode b_M_readKind 302 = .ok (.ifCond .ne 8, 3) := by decide +kernel
theorem d_M_readKind_305 : decode b_M_readKind 305 = .ok (.bipush 9, 2) := by decide +kernel
theorem d_M_readKind_307 : decode b_M_readKind 307 = .ok (.goto 4, 3) := by decide +kernel
theorem d_M_readKind_310 : decode b_M_readKind 310 = .ok (.iconst (-1), 1) := by decide +kernel
theorem d_M_readKind_311 : decode b_M_readKind 311 = .ok (.istore 5, 2) := by decide +kernel
theorem d_M_readKind_313 : decode b_M_readKind 313 = .ok (.lload_n 2, 1) := by decide +kernel
theorem d_M_readKind_314 : decode b_M_readKind 314 = .ok (.bipush 98, 2) := by decide +kernel
theorem d_M_readKind_316 : decode b_M_readKind 316 = .ok (.bipush 97, 2) := by decide +kernel
theorem d_M_readKind_318 : decode b_M_readKind 318 = .ok (.bipush 99, 2) := by decide +kernel
theorem d_M_readKind_320 : decode b_M_readKind 320 = .ok (.bipush 107, 2) := by decide +kernel
theorem d_M_readKind_322 : decode b_M_readKind 322 = .ok (.iconst 0, 1) := by decide +kernel
theorem d_M_readKind_323 : decode b_M_readKind 323 = .ok (.invokestatic 165, 3) := by decide +kernel
theorem d_M_readKind_326 : decode b_M_readKind 326 = .ok (.lcmp, 1) := by decide +kernel
theorem d_M_readKind_327 : decode b_M_readKind 327 = .ok (.ifCond .ne 8, 3) := by decide +kernel
theorem d_M_readKind_330 : decode b_M_readKind 330 = .ok (.bipush 10, 2) := by decide +kernel
theorem d_M_readKind_332 : decode b_M_readKind 332 = .ok (.goto 48, 3) := by decide +kernel
theorem d_M_readKind_335 : decode b_M_readKind 335 = .ok (.lload_n 2, 1) := by decide +kernel
theorem d_M_readKind_336 : decode b_M_readKind 336 = .ok (.bipush 108, 2) := by decide +kernel
theorem d_M_readKind_338 : decode b_M_readKind 338 = .ok (.bipush 105, 2) := by decide +kernel
theorem d_M_readKind_340 : decode b_M_readKind 340 = .ok (.bipush 110, 2) := by decide +kernel
theorem d_M_readKind_342 : decode b_M_readKind 342 = .ok (.bipush 107, 2) := by decide +kernel
theorem d_M_readKind_344 : decode b_M_readKind 344 = .ok (.iconst 0, 1) := by decide +kernel
theorem d_M_readKind_345 : decode b_M_readKind 345 = .ok (.invokestatic 165, 3) := by decide +kernel
theorem d_M_readKind_348 : decode b_M_readKind 348 = .ok (.lcmp, 1) := by decide +kernel
theorem d_M_readKind_349 : decode b_M_readKind 349 = .ok (.ifCond .ne 8, 3) := by decide +kernel
theorem d_M_readKind_352 : decode b_M_readKind 352 = .ok (.bipush 11, 2) := by decide +kernel
theorem d_M_readKind_354 : decode b_M_readKind 354 = .ok (.goto 26, 3) := by decide +kernel
theorem d_M_readKind_357 : decode b_M_readKind 357 = .ok (.lload_n 2, 1) := by decide +kernel
theorem d_M_readKind_358 : decode b_M_readKind 358 = .ok (.bipush 98, 2) := by decide +kernel
theorem d_M_readKind_360 : decode b_M_readKind 360 = .ok (.bipush 111, 2) := by decide +kernel
theorem d_M_readKind_362 : decode b_M_readKind 362 = .ok (.bipush 116, 2) := by decide +kernel
theorem d_M_readKind_364 : decode b_M_readKind 364 = .ok (.bipush 104, 2) := by decide +kernel
theorem d_M_readKind_366 : decode b_M_readKind 366 = .ok (.iconst 0, 1) := by decide +kernel
theorem d_M_readKind_367 : decode b_M_readKind 367 = .ok (.invokestatic 165, 3) := by decide +kernel
theorem d_M_readKind_370 : decode b_M_readKind 370 = .ok (.lcmp, 1) := by decide +kernel
theorem d_M_readKind_371 : decode b_M_readKind 371 = .ok (.ifCond .ne 8, 3) := by decide +kernel
theorem d_M_readKind_374 : decode b_M_readKind 374 = .ok (.bipush 12, 2) := by decide +kernel
theorem d_M_readKind_376 : decode b_M_readKind 376 = .ok (.goto 4, 3) := by decide +kernel
theorem d_M_readKind_379 : decode b_M_readKind 379 = .ok (.iconst (-1), 1) := by decide +kernel
theorem d_M_readKind_380 : decode b_M_readKind 380 = .ok (.istore 6, 2) := by decide +kernel
theorem d_M_readKind_382 : decode b_M_readKind 382 = .ok (.iload 4, 2) := by decide +kernel
theorem d_M_readKind_384 : decode b_M_readKind 384 = .ok (.ifCond .lt 8, 3) := by decide +kernel
theorem d_M_readKind_387 : decode b_M_readKind 387 = .ok (.iload 4, 2) := by decide +kernel
theorem d_M_readKind_389 : decode b_M_readKind 389 = .ok (.goto 15, 3) := by decide +kernel
theorem d_M_readKind_392 : decode b_M_readKind 392 = .ok (.iload 5, 2) := by decide +kernel
theorem d_M_readKind_394 : decode b_M_readKind 394 = .ok (.ifCond .lt 8, 3) := by decide +kernel
theorem d_M_readKind_397 : decode b_M_readKind 397 = .ok (.iload 5, 2) := by decide +kernel
theorem d_M_readKind_399 : decode b_M_readKind 399 = .ok (.goto 5, 3) := by decide +kernel
theorem d_M_readKind_402 : decode b_M_readKind 402 = .ok (.iload 6, 2) := by decide +kernel
theorem d_M_readKind_404 : decode b_M_readKind 404 = .ok (.ireturn, 1) := by decide +kernel
theorem d_M_isTwo_0 : decode b_M_isTwo 0 = .ok (.iload_n 0, 1) := by decide +kernel
theorem d_M_isTwo_1 : decode b_M_isTwo 1 = .ok (.bipush 6, 2) := by decide +kernel
theorem d_M_isTwo_3 : decode b_M_isTwo 3 = .ok (.if_icmp .lt 13, 3) := by decide +kernel
theorem d_M_isTwo_6 : decode b_M_isTwo 6 = .ok (.iload_n 0, 1) := by decide +kernel
theorem d_M_isTwo_7 : decode b_M_isTwo 7 = .ok (.bipush 9, 2) := by decide +kernel
theorem d_M_isTwo_9 : decode b_M_isTwo 9 = .ok (.if_icmp .gt 7, 3) := by decide +kernel
theorem d_M_isTwo_12 : decode b_M_isTwo 12 = .ok (.iconst 1, 1) := by decide +kernel
theorem d_M_isTwo_13 : decode b_M_isTwo 13 = .ok (.goto 4, 3) := by decide +kernel
theorem d_M_isTwo_16 : decode b_M_isTwo 16 = .ok (.iconst 0, 1) := by decide +kernel
theorem d_M_isTwo_17 : decode b_M_isTwo 17 = .ok (.ireturn, 1) := by decide +kernel
theorem d_M_isOne_0 : decode b_M_isOne 0 = .ok (.iload_n 0, 1) := by decide +kernel
theorem d_M_isOne_1 : decode b_M_isOne 1 = .ok (.bipush 10, 2) := by decide +kernel
theorem d_M_isOne_3 : decode b_M_isOne 3 = .ok (.if_icmp .lt 7, 3) := by decide +kernel
theorem d_M_isOne_6 : decode b_M_isOne 6 = .ok (.iconst 1, 1) := by decide +kernel
theorem d_M_isOne_7 : decode b_M_isOne 7 = .ok (.goto 4, 3) := by decide +kernel
theorem d_M_isOne_10 : decode b_M_isOne 10 = .ok (.iconst 0, 1) := by decide +kernel
theorem d_M_isOne_11 : decode b_M_isOne 11 = .ok (.ireturn, 1) := by decide +kernel
theorem d_M_readNode_0 : decode b_M_readNode 0 = .ok (.aload_n 0, 1) := by decide +kernel
theorem d_M_readNode_1 : decode b_M_readNode 1 = .ok (.invokevirtual 169, 3) := by decide +kernel
theorem d_M_readNode_4 : decode b_M_readNode 4 = .ok (.istore_n 2, 1) := by decide +kernel
theorem d_M_readNode_5 : decode b_M_readNode 5 = .ok (.iload_n 2, 1) := by decide +kernel
theorem d_M_readNode_6 : decode b_M_readNode 6 = .ok (.ifCond .lt 12, 3) := by decide +kernel
theorem d_M_readNode_9 : decode b_M_readNode 9 = .ok (.aload_n 0, 1) := by decide +kernel
theorem d_M_readNode_10 : decode b_M_readNode 10 = .ok (.getfield 172, 3) := by decide +kernel
theorem d_M_readNode_13 : decode b_M_readNode 13 = .ok (.bipush 8, 2) := by decide +kernel
theorem d_M_readNode_15 : decode b_M_readNode 15 = .ok (.if_icmp .ne 21, 3) := by decide +kernel
theorem d_M_readNode_18 : decode b_M_readNode 18 = .ok (.aload_n 0, 1) := by decide +kernel
theorem d_M_readNode_19 : decode b_M_readNode 19 = .ok (.iload_n 2, 1) := by decide +kernel
theorem d_M_readNode_20 : decode b_M_readNode 20 = .ok (.ifCond .ge 7, 3) := by decide +kernel
theorem d_M_readNode_23 : decode b_M_readNode 23 = .ok (.iconst 1, 1) := by decide +kernel
theorem d_M_readNode_24 : decode b_M_readNode 24 = .ok (.goto 4, 3) := by decide +kernel
theorem d_M_readNode_27 : decode b_M_readNode 27 = .ok (.iconst 2, 1) := by decide +kernel
theorem d_M_readNode_28 : decode b_M_readNode 28 = .ok (.aload_n 0, 1) := by decide +kernel
theorem d_M_readNode_29 : decode b_M_readNode 29 = .ok (.getfield 140, 3) := by decide +kernel
theorem d_M_readNode_32 : decode b_M_readNode 32 = .ok (.invokevirtual 146, 3) := by decide +kernel
theorem d_M_readNode_35 : decode b_M_readNode 35 = .ok (.ireturn, 1) := by decide +kernel
theorem d_M_readNode_36 : decode b_M_readNode 36 = .ok (.iload_n 1, 1) := by decide +kernel
theorem d_M_readNode_37 : decode b_M_readNode 37 = .ok (.aload_n 0, 1) := by decide +kernel
theorem d_M_readNode_38 : decode b_M_readNode 38 = .ok (.getfield 175, 3) := by decide +kernel
theorem d_M_readNode_41 : decode b_M_readNode 41 = .ok (.iadd, 1) := by decide +kernel
theorem d_M_readNode_42 : decode b_M_readNode 42 = .ok (.istore_n 3, 1) := by decide +kernel
theorem d_M_readNode_43 : decode b_M_readNode 43 = .ok (.aload_n 0, 1) := by decide +kernel
theorem d_M_readNode_44 : decode b_M_readNode 44 = .ok (.dup, 1) := by decide +kernel
theorem d_M_readNode_45 : decode b_M_readNode 45 = .ok (.getfield 175, 3) := by decide +kernel
theorem d_M_readNode_48 : decode b_M_readNode 48 = .ok (.iconst 1, 1) := by decide +kernel
theorem d_M_readNode_49 : decode b_M_readNode 49 = .ok (.iadd, 1) := by decide +kernel
theorem d_M_readNode_50 : decode b_M_readNode 50 = .ok (.putfield 175, 3) := by decide +kernel
theorem d_M_readNode_53 : decode b_M_readNode 53 = .ok (.aload_n 0, 1) := by decide +kernel
theorem d_M_readNode_54 : decode b_M_readNode 54 = .ok (.getfield 16, 3) := by decide +kernel
theorem d_M_readNode_57 : decode b_M_readNode 57 = .ok (.iload_n 3, 1) := by decide +kernel
theorem d_M_readNode_58 : decode b_M_readNode 58 = .ok (.iload_n 2, 1) := by decide +kernel
theorem d_M_readNode_59 : decode b_M_readNode 59 = .ok (.iastore, 1) := by decide +kernel
theorem d_M_readNode_60 : decode b_M_readNode 60 = .ok (.aload_n 0, 1) := by decide +kernel
theorem d_M_readNode_61 : decode b_M_readNode 61 = .ok (.aload_n 0, 1) := by decide +kernel
theorem d_M_readNode_62 : decode b_M_readNode 62 = .ok (.getfield 154, 3) := by decide +kernel
theorem d_M_readNode_65 : decode b_M_readNode 65 = .ok (.putfield 140, 3) := by decide +kernel
theorem d_M_readNode_68 : decode b_M_readNode 68 = .ok (.iload_n 2, 1) := by decide +kernel
theorem d_M_readNode_69 : decode b_M_readNode 69 = .ok (.iconst 3, 1) := by decide +kernel
theorem d_M_readNode_70 : decode b_M_readNode 70 = .ok (.if_icmp .ne 55, 3) := by decide +kernel
theorem d_M_readNode_73 : decode b_M_readNode 73 = .ok (.aload_n 0, 1) := by decide +kernel
theorem d_M_readNode_74 : decode b_M_readNode 74 = .ok (.invokevirtual 143, 3) := by decide +kernel
theorem d_M_readNode_77 : decode b_M_readNode 77 = .ok (.istore 4, 2) := by decide +kernel
theorem d_M_readNode_79 : decode b_M_readNode 79 = .ok (.iload 4, 2) := by decide +kernel
theorem d_M_readNode_81 : decode b_M_readNode 81 = .ok (.i2l, 1) := by decide +kernel
theorem d_M_readNode_82 : decode b_M_readNode 82 = .ok (.ldc2_w 178, 3) := by decide +kernel
theorem d_M_readNode_85 : decode b_M_readNode 85 = .ok (.ldc2_w 180, 3) := by decide +kernel
theorem d_M_readNode_88 : decode b_M_readNode 88 = .ok (.invokestatic 90, 3) := by decide +kernel
theorem d_M_readNode_91 : decode b_M_readNode 91 = .ok (.ifCond .ne 13, 3) := by decide +kernel
theorem d_M_readNode_94 : decode b_M_readNode 94 = .ok (.aload_n 0, 1) := by decide +kernel
theorem d_M_readNode_95 : decode b_M_readNode 95 = .ok (.iconst 1, 1) := by decide +kernel
theorem d_M_readNode_96 : decode b_M_readNode 96 = .ok (.aload_n 0, 1) := by decide +kernel
theorem d_M_readNode_97 : decode b_M_readNode 97 = .ok (.getfield 140, 3) := by decide +kernel
theorem d_M_readNode_100 : decode b_M_readNode 100 = .ok (.invokevirtual 146, 3) := by decide +kernel
theorem d_M_readNode_103 : decode b_M_readNode 103 = .ok (.ireturn, 1) := by decide +kernel
theorem d_M_readNode_104 : decode b_M_readNode 104 = .ok (.aload_n 0, 1) := by decide +kernel
theorem d_M_readNode_105 : decode b_M_readNode 105 = .ok (.getfield 19, 3) := by decide +kernel
theorem d_M_readNode_108 : decode b_M_readNode 108 = .ok (.iload_n 3, 1) := by decide +kernel
theorem d_M_readNode_109 : decode b_M_readNode 109 = .ok (.iload 4, 2) := by decide +kernel
theorem d_M_readNode_111 : decode b_M_readNode 111 = .ok (.bipush 48, 2) := by decide +kernel
theorem d_M_readNode_113 : decode b_M_readNode 113 = .ok (.isub, 1) := by decide +kernel
theorem d_M_readNode_114 : decode b_M_readNode 114 = .ok (.iastore, 1) := by decide +kernel
theorem d_M_readNode_115 : decode b_M_readNode 115 = .ok (.aload_n 0, 1) := by decide +kernel
theorem d_M_readNode_116 : decode b_M_readNode 116 = .ok (.dup, 1) := by decide +kernel
theorem d_M_readNode_117 : decode b_M_readNode 117 = .ok (.getfield 140, 3) := by decide +kernel
theorem d_M_readNode_120 : decode b_M_readNode 120 = .ok (.iconst 1, 1) := by decide +kernel
theorem d_M_readNode_121 : decode b_M_readNode 121 = .ok (.iadd, 1) := by decide +kernel
theorem d_M_readNode_122 : decode b_M_readNode 122 = .ok (.putfield 140, 3) := by decide +kernel
theorem d_M_readNode_125 : decode b_M_readNode 125 = .ok (.iload_n 2, 1) := by decide +kernel
theorem d_M_readNode_126 : decode b_M_readNode 126 = .ok (.invokestatic 182, 3) := by decide +kernel
theorem d_M_readNode_129 : decode b_M_readNode 129 = .ok (.ifCond .ne 10, 3) := by decide +kernel
theorem d_M_readNode_132 : decode b_M_readNode 132 = .ok (.iload_n 2, 1) := by decide +kernel
theorem d_M_readNode_133 : decode b_M_readNode 133 = .ok (.invokestatic 185, 3) := by decide +kernel
theorem d_M_readNode_136 : decode b_M_readNode 136 = .ok (.ifCond .eq 51, 3) := by decide +kernel
theorem d_M_readNode_139 : decode b_M_readNode 139 = .ok (.aload_n 0, 1) := by decide +kernel
theorem d_M_readNode_140 : decode b_M_readNode 140 = .ok (.getfield 29, 3) := by decide +kernel
theorem d_M_readNode_143 : decode b_M_readNode 143 = .ok (.aload_n 0, 1) := by decide +kernel
theorem d_M_readNode_144 : decode b_M_readNode 144 = .ok (.getfield 172, 3) := by decide +kernel
theorem d_M_readNode_147 : decode b_M_readNode 147 = .ok (.iload_n 3, 1) := by decide +kernel
theorem d_M_readNode_148 : decode b_M_readNode 148 = .ok (.iastore, 1) := by decide +kernel
theorem d_M_readNode_149 : decode b_M_readNode 149 = .ok (.aload_n 0, 1) := by decide +kernel
theorem d_M_readNode_150 : decode b_M_readNode 150 = .ok (.getfield 32, 3) := by decide +kernel
theorem d_M_readNode_153 : decode b_M_readNode 153 = .ok (.aload_n 0, 1) := by decide +kernel
theorem d_M_readNode_154 : decode b_M_readNode 154 = .ok (.getfield 172, 3) := by decide +kernel
theorem d_M_readNode_157 : decode b_M_readNode 157 = .ok (.iconst 0, 1) := by decide +kernel
theorem d_M_readNode_158 : decode b_M_readNode 158 = .ok (.bastore, 1) := by decide +kernel
theorem d_M_readNode_159 : decode b_M_readNode 159 = .ok (.aload_n 0, 1) := by decide +kernel
theorem d_M_readNode_160 : decode b_M_readNode 160 = .ok (.dup, 1) := by decide +kernel
theorem d_M_readNode_161 : decode b_M_readNode 161 = .ok (.getfield 172, 3) := by decide +kernel
theorem d_M_readNode_164 : decode b_M_readNode 164 = .ok (.iconst 1, 1) := by decide +kernel
theorem d_M_readNode_165 : decode b_M_readNode 165 = .ok (.iadd, 1) := by decide +kernel
theorem d_M_readNode_166 : decode b_M_readNode 166 = .ok (.putfield 172, 3) := by decide +kernel
theorem d_M_readNode_169 : decode b_M_readNode 169 = .ok (.iload_n 2, 1) := by decide +kernel
theorem d_M_readNode_170 : decode b_M_readNode 170 = .ok (.invokestatic 182, 3) := by decide +kernel
theorem d_M_readNode_173 : decode b_M_readNode 173 = .ok (.ifCond .eq 12, 3) := by decide +kernel
theorem d_M_readNode_176 : decode b_M_readNode 176 = .ok (.aload_n 0, 1) := by decide +kernel
theorem d_M_readNode_177 : decode b_M_readNode 177 = .ok (.bipush 40, 2) := by decide +kernel
theorem d_M_readNode_179 : decode b_M_readNode 179 = .ok (.invokevirtual 188, 3) := by decide +kernel
theorem d_M_readNode_182 : decode b_M_readNode 182 = .ok (.goto 4, 3) := by decide +kernel
theorem d_M_readNode_185 : decode b_M_readNode 185 = .ok (.iconst 0, 1) := by decide +kernel
theorem d_M_readNode_186 : decode b_M_readNode 186 = .ok (.ireturn, 1) := by decide +kernel
theorem d_M_readNode_187 : decode b_M_readNode 187 = .ok (.iconst 0, 1) := by decide +kernel
theorem d_M_readNode_188 : decode b_M_readNode 188 = .ok (.ireturn, 1) := by decide +kernel
def f_M_in (x0 : Int64) (x2 : Int64) (x4 : Int64) : Option (Int32) :=
  if x0 < x2 then
    some (0 : Int32)
  else
  if x4 < x0 then
    some (0 : Int32)
  else
  some (1 : Int32)
set_option maxRecDepth 100000 in
set_option maxHeartbeats 4000000 in
theorem c_M_in {l : Launch} {N0 : Nat} {D : va_G} {cs : Nat → ClassId} {x0 : Int64} {x2 : Int64} {x4 : Int64} {r0 : Int32} {h : Hp} (hf : f_M_in x0 x2 x4 = some r0) : Fn l N0 D cs y_M_in b_M_in 6 (some .boolean) 1 0 0 [.long x0, .long x2, .long x4] h (some (.int r0)) h := by
  refine z_start (by decide) (Nat.le_of_ble_eq_true rfl) ?_
  intro p e s m args below meth c M hH hS ls hl
  unfold f_M_in at hf
  have hl : lv_has ls 6 [(0, .long x0), (2, .long x2), (4, .long x4)] := hl
  obtain ⟨H, hHe⟩ : ∃ H, H = s.heap := ⟨_, rfl⟩
  obtain ⟨locs, hLe⟩ : ∃ locs : List Loc, locs = [] := ⟨_, rfl⟩
  have hS : va_S (zA N0) s.heap H locs := by rw [hHe, hLe]; exact hS
  have hH : HH N0 D cs h H := by rw [hHe]; exact hH
  suffices hg : W p l e (zrm 1 0 0) s m args below meth c H locs 0 0 (MQ below (zQ N0 D cs (some (.int r0)) h) args s 0 0 (zA N0)) (F0 m 0 ls []) by rw [hHe, hLe] at hg; exact hg
  clear hHe hLe
  refine lv_lload_n M.x M.b d_M_in_0 rfl (lv_at hl 0 rfl) ?_
  refine lv_lload_n M.x M.b d_M_in_1 rfl (lv_at hl 1 rfl) ?_
  refine z_lcmp_lt (tgt := 17) M d_M_in_2 d_M_in_3 (by decide) (fun c2 => ?_) (fun c2 => ?_)
  · replace hf := z_t c2 hf
    refine lv_iconst (v := (0 : Int32)) M.x M.b d_M_in_17 rfl ?_
    obtain rfl := z_r1 hf
    exact z_zret M hH hS (by decide) d_M_in_18
  · replace hf := z_f c2 hf
    refine lv_lload_n M.x M.b d_M_in_6 rfl (lv_at hl 0 rfl) ?_
    refine lv_lload M.x M.b d_M_in_7 (lv_at hl 2 rfl) ?_
    refine z_lcmp_gt (tgt := 17) M d_M_in_9 d_M_in_10 (by decide) (fun c1 => ?_) (fun c1 => ?_)
    · replace hf := z_t c1 hf
      refine lv_iconst (v := (0 : Int32)) M.x M.b d_M_in_17 rfl ?_
      obtain rfl := z_r1 hf
      exact z_zret M hH hS (by decide) d_M_in_18
    · replace hf := z_f c1 hf
      refine lv_iconst (v := (1 : Int32)) M.x M.b d_M_in_13 rfl ?_
      refine lv_goto (tgt := 18) M.x M.b d_M_in_14 (by decide) ?_
      obtain rfl := z_r1 hf
      exact z_zret M hH hS (by decide) d_M_in_18
def f_M_isYear (x0 : Int32) : Option (Int32) :=
  (f_M_in (x0).toInt64 (0 : Int64) (7 : Int64)).bind fun i2 =>
  (zB i2).bind fun _ =>
  some i2
set_option maxRecDepth 100000 in
set_option maxHeartbeats 4000000 in
theorem c_M_isYear {l : Launch} {N0 : Nat} {D : va_G} {cs : Nat → ClassId} {x0 : Int32} {r0 : Int32} {h : Hp} (hf : f_M_isYear x0 = some r0) : Fn l N0 D cs y_M_isYear b_M_isYear 1 (some .boolean) 2 0 0 [.int x0] h (some (.int r0)) h := by
  refine z_start (by decide) (Nat.le_of_ble_eq_true rfl) ?_
  intro p e s m args below meth c M hH hS ls hl
  unfold f_M_isYear at hf
  have hl : lv_has ls 1 [(0, .int x0)] := hl
  obtain ⟨H, hHe⟩ : ∃ H, H = s.heap := ⟨_, rfl⟩
  obtain ⟨locs, hLe⟩ : ∃ locs : List Loc, locs = [] := ⟨_, rfl⟩
  have hS : va_S (zA N0) s.heap H locs := by rw [hHe, hLe]; exact hS
  have hH : HH N0 D cs h H := by rw [hHe]; exact hH
  suffices hg : W p l e (zrm 2 0 0) s m args below meth c H locs 0 0 (MQ below (zQ N0 D cs (some (.int r0)) h) args s 0 0 (zA N0)) (F0 m 0 ls []) by rw [hHe, hLe] at hg; exact hg
  clear hHe hLe
  refine lv_iload_n M.x M.b d_M_isYear_0 rfl (lv_at hl 0 rfl) ?_
  refine lv_i2l M.x M.b d_M_isYear_1 rfl ?_
  refine lv_lconst (v := (0 : Int64)) M.x M.b d_M_isYear_2 rfl ?_
  refine z_ldc2 (v := (7 : Int64)) M q_550 d_M_isYear_3 ?_
  replace hf := z_bind hf; obtain ⟨i2, e1, hf⟩ := hf
  refine zk_S (st1 := [.int i2]) M hH hS (c_M_in e1) w_M_in q_551 [] rfl ⟨Nat.le_of_ble_eq_true rfl, Nat.le_of_ble_eq_true rfl⟩ hl.1 rfl rfl (Nat.le_of_ble_eq_true rfl) d_M_isYear_6 (fun H locs hH hS => ?_)
  replace hf := z_bind hf; obtain ⟨_, e3, hf⟩ := hf
  have z4 := (zB_spec e3).2
  obtain rfl := z_r1 hf
  exact z_zret M hH hS z4 d_M_isYear_9
def f_M_isGood (x0 : Int32) : Option (Int32) :=
  (f_M_in (x0).toInt64 (0 : Int64) (4 : Int64)).bind fun i2 =>
  (zB i2).bind fun _ =>
  some i2
set_option maxRecDepth 100000 in
set_option maxHeartbeats 4000000 in
theorem c_M_isGood {l : Launch} {N0 : Nat} {D : va_G} {cs : Nat → ClassId} {x0 : Int32} {r0 : Int32} {h : Hp} (hf : f_M_isGood x0 = some r0) : Fn l N0 D cs y_M_isGood b_M_isGood 1 (some .boolean) 2 0 0 [.int x0] h (some (.int r0)) h := by
  refine z_start (by decide) (Nat.le_of_ble_eq_true rfl) ?_
  intro p e s m args below meth c M hH hS ls hl
  unfold f_M_isGood at hf
  have hl : lv_has ls 1 [(0, .int x0)] := hl
  obtain ⟨H, hHe⟩ : ∃ H, H = s.heap := ⟨_, rfl⟩
  obtain ⟨locs, hLe⟩ : ∃ locs : List Loc, locs = [] := ⟨_, rfl⟩
  have hS : va_S (zA N0) s.heap H locs := by rw [hHe, hLe]; exact hS
  have hH : HH N0 D cs h H := by rw [hHe]; exact hH
  suffices hg : W p l e (zrm 2 0 0) s m args below meth c H locs 0 0 (MQ below (zQ N0 D cs (some (.int r0)) h) args s 0 0 (zA N0)) (F0 m 0 ls []) by rw [hHe, hLe] at hg; exact hg
  clear hHe hLe
  refine lv_iload_n M.x M.b d_M_isGood_0 rfl (lv_at hl 0 rfl) ?_
  refine lv_i2l M.x M.b d_M_isGood_1 rfl ?_
  refine lv_lconst (v := (0 : Int64)) M.x M.b d_M_isGood_2 rfl ?_
  refine z_ldc2 (v := (4 : Int64)) M q_554 d_M_isGood_3 ?_
  replace hf := z_bind hf; obtain ⟨i2, e1, hf⟩ := hf
  refine zk_S (st1 := [.int i2]) M hH hS (c_M_in e1) w_M_in q_551 [] rfl ⟨Nat.le_of_ble_eq_true rfl, Nat.le_of_ble_eq_true rfl⟩ hl.1 rfl rfl (Nat.le_of_ble_eq_true rfl) d_M_isGood_6 (fun H locs hH hS => ?_)
  replace hf := z_bind hf; obtain ⟨_, e3, hf⟩ := hf
  have z4 := (zB_spec e3).2
  obtain rfl := z_r1 hf
  exact z_zret M hH hS z4 d_M_isGood_9
def f_M_isWho (x0 : Int32) : Option (Int32) :=
  (f_M_in (x0).toInt64 (0 : Int64) (3 : Int64)).bind fun i2 =>
  (zB i2).bind fun _ =>
  some i2
set_option maxRecDepth 100000 in
set_option maxHeartbeats 4000000 in
theorem c_M_isWho {l : Launch} {N0 : Nat} {D : va_G} {cs : Nat → ClassId} {x0 : Int32} {r0 : Int32} {h : Hp} (hf : f_M_isWho x0 = some r0) : Fn l N0 D cs y_M_isWho b_M_isWho 1 (some .boolean) 2 0 0 [.int x0] h (some (.int r0)) h := by
  refine z_start (by decide) (Nat.le_of_ble_eq_true rfl) ?_
  intro p e s m args below meth c M hH hS ls hl
  unfold f_M_isWho at hf
  have hl : lv_has ls 1 [(0, .int x0)] := hl
  obtain ⟨H, hHe⟩ : ∃ H, H = s.heap := ⟨_, rfl⟩
  obtain ⟨locs, hLe⟩ : ∃ locs : List Loc, locs = [] := ⟨_, rfl⟩
  have hS : va_S (zA N0) s.heap H locs := by rw [hHe, hLe]; exact hS
  have hH : HH N0 D cs h H := by rw [hHe]; exact hH
  suffices hg : W p l e (zrm 2 0 0) s m args below meth c H locs 0 0 (MQ below (zQ N0 D cs (some (.int r0)) h) args s 0 0 (zA N0)) (F0 m 0 ls []) by rw [hHe, hLe] at hg; exact hg
  clear hHe hLe
  refine lv_iload_n M.x M.b d_M_isWho_0 rfl (lv_at hl 0 rfl) ?_
  refine lv_i2l M.x M.b d_M_isWho_1 rfl ?_
  refine lv_lconst (v := (0 : Int64)) M.x M.b d_M_isWho_2 rfl ?_
  refine z_ldc2 (v := (3 : Int64)) M q_557 d_M_isWho_3 ?_
  replace hf := z_bind hf; obtain ⟨i2, e1, hf⟩ := hf
  refine zk_S (st1 := [.int i2]) M hH hS (c_M_in e1) w_M_in q_551 [] rfl ⟨Nat.le_of_ble_eq_true rfl, Nat.le_of_ble_eq_true rfl⟩ hl.1 rfl rfl (Nat.le_of_ble_eq_true rfl) d_M_isWho_6 (fun H locs hH hS => ?_)
  replace hf := z_bind hf; obtain ⟨_, e3, hf⟩ := hf
  have z4 := (zB_spec e3).2
  obtain rfl := z_r1 hf
  exact z_zret M hH hS z4 d_M_isWho_9
def f_M_price (this : Nat) (x1 : Int32) (x2 : Int32) (x3 : Int32) (h : Hp) : Option ((Int32 × Hp)) :=
  if isO h this 8 = true then
  (f_M_isYear x1).bind fun i2 =>
  if i2 = 0 then
    some ((-1001 : Int32), h)
  else
  (f_M_isGood x2).bind fun i4 =>
  if i4 = 0 then
    some ((-1001 : Int32), h)
  else
  (f_M_in (x3).toInt64 (0 : Int64) (99 : Int64)).bind fun i6 =>
  if i6 = 0 then
    some ((-1002 : Int32), h)
  else
  (gA h this 8 0).bind fun r7 =>
  (r7).bind fun a9 =>
  (aI h 0 a9 (((5 : Int32) * x1) + x2)).bind fun i12 =>
  (gA h this 8 0).bind fun r13 =>
  (r13).bind fun a15 =>
  (sI h a15 (((5 : Int32) * x1) + x2) x3).bind fun h18 =>
  some (i12, h18)
  else none
theorem o_M_price {this : Nat} {x1 : Int32} {x2 : Int32} {x3 : Int32} {h : Hp} {r0 : Int32} {h0 : Hp} (hf : f_M_price this x1 x2 x3 h = some (r0, h0)) : isO h this 8 = true := by
  unfold f_M_price at hf
  exact (z_gd hf).1
set_option maxRecDepth 100000 in
set_option maxHeartbeats 4000000 in
theorem c_M_price {l : Launch} {N0 : Nat} {D : va_G} {cs : Nat → ClassId} {this : Nat} {x1 : Int32} {x2 : Int32} {x3 : Int32} {h : Hp} {r0 : Int32} {h0 : Hp} (hf : f_M_price this x1 x2 x3 h = some (r0, h0)) : Fn l N0 D cs y_M_price b_M_price 5 (some .int) 3 0 0 [.ref this, .int x1, .int x2, .int x3] h (some (.int r0)) h0 := by
  refine z_start (by decide) (Nat.le_of_ble_eq_true rfl) ?_
  intro p e s m args below meth c M hH hS ls hl
  unfold f_M_price at hf
  obtain ⟨hO, hf⟩ := z_gd hf
  have hl : lv_has ls 5 [(0, .ref this), (1, .int x1), (2, .int x2), (3, .int x3)] := hl
  obtain ⟨H, hHe⟩ : ∃ H, H = s.heap := ⟨_, rfl⟩
  obtain ⟨locs, hLe⟩ : ∃ locs : List Loc, locs = [] := ⟨_, rfl⟩
  have hS : va_S (zA N0) s.heap H locs := by rw [hHe, hLe]; exact hS
  have hH : HH N0 D cs h H := by rw [hHe]; exact hH
  suffices hg : W p l e (zrm 3 0 0) s m args below meth c H locs 0 0 (MQ below (zQ N0 D cs (some (.int r0)) h0) args s 0 0 (zA N0)) (F0 m 0 ls []) by rw [hHe, hLe] at hg; exact hg
  clear hHe hLe
  refine lv_iload_n M.x M.b d_M_price_0 rfl (lv_at hl 1 rfl) ?_
  replace hf := z_bind hf; obtain ⟨i2, e1, hf⟩ := hf
  refine zk_S (st1 := [.int i2]) M hH hS (c_M_isYear e1) w_M_isYear q_564 [] rfl ⟨Nat.le_of_ble_eq_true rfl, Nat.le_of_ble_eq_true rfl⟩ hl.1 rfl rfl (Nat.le_of_ble_eq_true rfl) d_M_price_1 (fun H locs hH hS => ?_)
  refine lv_if_eq (tgt := 14) M.x M.b d_M_price_4 (by decide) (fun c21 => ?_) (fun c21 => ?_)
  · replace hf := z_t c21 hf
    refine lv_sipush (v := (-1001 : Int32)) M.x M.b d_M_price_14 rfl ?_
    obtain ⟨rfl, rfl⟩ := z_r2 hf
    exact z_iret M hH hS d_M_price_17
  · replace hf := z_f c21 hf
    refine lv_iload_n M.x M.b d_M_price_7 rfl (lv_at hl 2 rfl) ?_
    replace hf := z_bind hf; obtain ⟨i4, e3, hf⟩ := hf
    refine zk_S (st1 := [.int i4]) M hH hS (c_M_isGood e3) w_M_isGood q_563 [] rfl ⟨Nat.le_of_ble_eq_true rfl, Nat.le_of_ble_eq_true rfl⟩ hl.1 rfl rfl (Nat.le_of_ble_eq_true rfl) d_M_price_8 (fun H locs hH hS => ?_)
    refine lv_if_ne (tgt := 18) M.x M.b d_M_price_11 (by decide) (fun c20 => ?_) (fun c20 => ?_)
    · replace hf := z_f c20 hf
      refine lv_iload_n M.x M.b d_M_price_18 rfl (lv_at hl 3 rfl) ?_
      refine lv_i2l M.x M.b d_M_price_19 rfl ?_
      refine lv_lconst (v := (0 : Int64)) M.x M.b d_M_price_20 rfl ?_
      refine z_ldc2 (v := (99 : Int64)) M q_561 d_M_price_21 ?_
      replace hf := z_bind hf; obtain ⟨i6, e5, hf⟩ := hf
      refine zk_S (st1 := [.int i6]) M hH hS (c_M_in e5) w_M_in q_551 [] rfl ⟨Nat.le_of_ble_eq_true rfl, Nat.le_of_ble_eq_true rfl⟩ hl.1 rfl rfl (Nat.le_of_ble_eq_true rfl) d_M_price_24 (fun H locs hH hS => ?_)
      refine lv_if_ne (tgt := 34) M.x M.b d_M_price_27 (by decide) (fun c19 => ?_) (fun c19 => ?_)
      · replace hf := z_f c19 hf
        refine lv_aload_n M.x M.b d_M_price_34 rfl (lv_at hl 0 rfl) ?_
        replace hf := z_bind hf; obtain ⟨r7, e8, hf⟩ := hf
        refine z_get (ci := 8) (k := 0) M hH rfl (by decide) zinM q_562 (gA_spec e8) d_M_price_35 ?_
        refine lv_iconst (v := (5 : Int32)) M.x M.b d_M_price_38 rfl ?_
        refine lv_iload_n M.x M.b d_M_price_39 rfl (lv_at hl 1 rfl) ?_
        refine lv_imul M.x M.b d_M_price_40 ?_
        refine lv_iload_n M.x M.b d_M_price_41 rfl (lv_at hl 2 rfl) ?_
        refine lv_iadd M.x M.b d_M_price_42 ?_
        rcases r7 with _ | a9
        · exact absurd hf z_nb0
        replace hf := z_sb hf
        replace hf := z_bind hf; obtain ⟨i12, e11, hf⟩ := hf
        refine z_iald M hH e11 d_M_price_43 ?_
        refine lv_istore (lv' := [(4, .int i12), (0, .ref this), (1, .int x1), (2, .int x2), (3, .int x3)]) M.x M.b d_M_price_44 hl (by decide) rfl (fun ls hl => ?_)
        refine lv_aload_n M.x M.b d_M_price_46 rfl (lv_at hl 1 rfl) ?_
        replace hf := z_bind hf; obtain ⟨r13, e14, hf⟩ := hf
        refine z_get (ci := 8) (k := 0) M hH rfl (by decide) zinM q_562 (gA_spec e14) d_M_price_47 ?_
        refine lv_iconst (v := (5 : Int32)) M.x M.b d_M_price_50 rfl ?_
        refine lv_iload_n M.x M.b d_M_price_51 rfl (lv_at hl 2 rfl) ?_
        refine lv_imul M.x M.b d_M_price_52 ?_
        refine lv_iload_n M.x M.b d_M_price_53 rfl (lv_at hl 3 rfl) ?_
        refine lv_iadd M.x M.b d_M_price_54 ?_
        refine lv_iload_n M.x M.b d_M_price_55 rfl (lv_at hl 4 rfl) ?_
        rcases r13 with _ | a15
        · exact absurd hf z_nb0
        replace hf := z_sb hf
        replace hf := z_bind hf; obtain ⟨h18, e17, hf⟩ := hf
        refine z_iast M hH hS e17 d_M_price_56 (fun H locs hH hS => ?_)
        refine lv_iload M.x M.b d_M_price_57 (lv_at hl 0 rfl) ?_
        obtain ⟨rfl, rfl⟩ := z_r2 hf
        exact z_iret M hH hS d_M_price_59
      · replace hf := z_t c19 hf
        refine lv_sipush (v := (-1002 : Int32)) M.x M.b d_M_price_30 rfl ?_
        obtain ⟨rfl, rfl⟩ := z_r2 hf
        exact z_iret M hH hS d_M_price_33
    · replace hf := z_t c20 hf
      refine lv_sipush (v := (-1001 : Int32)) M.x M.b d_M_price_14 rfl ?_
      obtain ⟨rfl, rfl⟩ := z_r2 hf
      exact z_iret M hH hS d_M_price_17
def f_M_bought (this : Nat) (x1 : Int32) (x2 : Int32) (x3 : Int32) (x4 : Int32) (h : Hp) : Option ((Int32 × Hp)) :=
  if isO h this 8 = true then
  (f_M_in (x1).toInt64 (0 : Int64) (2 : Int64)).bind fun i2 =>
  if i2 = 0 then
    some ((-1001 : Int32), h)
  else
  (f_M_isYear x2).bind fun i4 =>
  if i4 = 0 then
    some ((-1001 : Int32), h)
  else
  (f_M_isGood x3).bind fun i6 =>
  if i6 = 0 then
    some ((-1001 : Int32), h)
  else
  (f_M_in (x4).toInt64 (0 : Int64) (9 : Int64)).bind fun i8 =>
  if i8 = 0 then
    some ((-1002 : Int32), h)
  else
  (gA h this 8 1).bind fun r9 =>
  (r9).bind fun a11 =>
  (aI h 0 a11 ((((50 : Int32) * x1) + ((5 : Int32) * x2)) + x3)).bind fun i14 =>
  (gA h this 8 1).bind fun r15 =>
  (r15).bind fun a17 =>
  (sI h a17 ((((50 : Int32) * x1) + ((5 : Int32) * x2)) + x3) x4).bind fun h20 =>
  some (i14, h20)
  else none
theorem o_M_bought {this : Nat} {x1 : Int32} {x2 : Int32} {x3 : Int32} {x4 : Int32} {h : Hp} {r0 : Int32} {h0 : Hp} (hf : f_M_bought this x1 x2 x3 x4 h = some (r0, h0)) : isO h this 8 = true := by
  unfold f_M_bought at hf
  exact (z_gd hf).1
set_option maxRecDepth 100000 in
set_option maxHeartbeats 4000000 in
theorem c_M_bought {l : Launch} {N0 : Nat} {D : va_G} {cs : Nat → ClassId} {this : Nat} {x1 : Int32} {x2 : Int32} {x3 : Int32} {x4 : Int32} {h : Hp} {r0 : Int32} {h0 : Hp} (hf : f_M_bought this x1 x2 x3 x4 h = some (r0, h0)) : Fn l N0 D cs y_M_bought b_M_bought 6 (some .int) 3 0 0 [.ref this, .int x1, .int x2, .int x3, .int x4] h (some (.int r0)) h0 := by
  refine z_start (by decide) (Nat.le_of_ble_eq_true rfl) ?_
  intro p e s m args below meth c M hH hS ls hl
  unfold f_M_bought at hf
  obtain ⟨hO, hf⟩ := z_gd hf
  have hl : lv_has ls 6 [(0, .ref this), (1, .int x1), (2, .int x2), (3, .int x3), (4, .int x4)] := hl
  obtain ⟨H, hHe⟩ : ∃ H, H = s.heap := ⟨_, rfl⟩
  obtain ⟨locs, hLe⟩ : ∃ locs : List Loc, locs = [] := ⟨_, rfl⟩
  have hS : va_S (zA N0) s.heap H locs := by rw [hHe, hLe]; exact hS
  have hH : HH N0 D cs h H := by rw [hHe]; exact hH
  suffices hg : W p l e (zrm 3 0 0) s m args below meth c H locs 0 0 (MQ below (zQ N0 D cs (some (.int r0)) h0) args s 0 0 (zA N0)) (F0 m 0 ls []) by rw [hHe, hLe] at hg; exact hg
  clear hHe hLe
  refine lv_iload_n M.x M.b d_M_bought_0 rfl (lv_at hl 1 rfl) ?_
  refine lv_i2l M.x M.b d_M_bought_1 rfl ?_
  refine lv_lconst (v := (0 : Int64)) M.x M.b d_M_bought_2 rfl ?_
  refine z_ldc2 (v := (2 : Int64)) M q_568 d_M_bought_3 ?_
  replace hf := z_bind hf; obtain ⟨i2, e1, hf⟩ := hf
  refine zk_S (st1 := [.int i2]) M hH hS (c_M_in e1) w_M_in q_551 [] rfl ⟨Nat.le_of_ble_eq_true rfl, Nat.le_of_ble_eq_true rfl⟩ hl.1 rfl rfl (Nat.le_of_ble_eq_true rfl) d_M_bought_6 (fun H locs hH hS => ?_)
  refine lv_if_eq (tgt := 26) M.x M.b d_M_bought_9 (by decide) (fun c24 => ?_) (fun c24 => ?_)
  · replace hf := z_t c24 hf
    refine lv_sipush (v := (-1001 : Int32)) M.x M.b d_M_bought_26 rfl ?_
    obtain ⟨rfl, rfl⟩ := z_r2 hf
    exact z_iret M hH hS d_M_bought_29
  · replace hf := z_f c24 hf
    refine lv_iload_n M.x M.b d_M_bought_12 rfl (lv_at hl 2 rfl) ?_
    replace hf := z_bind hf; obtain ⟨i4, e3, hf⟩ := hf
    refine zk_S (st1 := [.int i4]) M hH hS (c_M_isYear e3) w_M_isYear q_564 [] rfl ⟨Nat.le_of_ble_eq_true rfl, Nat.le_of_ble_eq_true rfl⟩ hl.1 rfl rfl (Nat.le_of_ble_eq_true rfl) d_M_bought_13 (fun H locs hH hS => ?_)
    refine lv_if_eq (tgt := 26) M.x M.b d_M_bought_16 (by decide) (fun c23 => ?_) (fun c23 => ?_)
    · replace hf := z_t c23 hf
      refine lv_sipush (v := (-1001 : Int32)) M.x M.b d_M_bought_26 rfl ?_
      obtain ⟨rfl, rfl⟩ := z_r2 hf
      exact z_iret M hH hS d_M_bought_29
    · replace hf := z_f c23 hf
      refine lv_iload_n M.x M.b d_M_bought_19 rfl (lv_at hl 3 rfl) ?_
      replace hf := z_bind hf; obtain ⟨i6, e5, hf⟩ := hf
      refine zk_S (st1 := [.int i6]) M hH hS (c_M_isGood e5) w_M_isGood q_563 [] rfl ⟨Nat.le_of_ble_eq_true rfl, Nat.le_of_ble_eq_true rfl⟩ hl.1 rfl rfl (Nat.le_of_ble_eq_true rfl) d_M_bought_20 (fun H locs hH hS => ?_)
      refine lv_if_ne (tgt := 30) M.x M.b d_M_bought_23 (by decide) (fun c22 => ?_) (fun c22 => ?_)
      · replace hf := z_f c22 hf
        refine lv_iload M.x M.b d_M_bought_30 (lv_at hl 4 rfl) ?_
        refine lv_i2l M.x M.b d_M_bought_32 rfl ?_
        refine lv_lconst (v := (0 : Int64)) M.x M.b d_M_bought_33 rfl ?_
        refine z_ldc2 (v := (9 : Int64)) M q_569 d_M_bought_34 ?_
        replace hf := z_bind hf; obtain ⟨i8, e7, hf⟩ := hf
        refine zk_S (st1 := [.int i8]) M hH hS (c_M_in e7) w_M_in q_551 [] rfl ⟨Nat.le_of_ble_eq_true rfl, Nat.le_of_ble_eq_true rfl⟩ hl.1 rfl rfl (Nat.le_of_ble_eq_true rfl) d_M_bought_37 (fun H locs hH hS => ?_)
        refine lv_if_ne (tgt := 47) M.x M.b d_M_bought_40 (by decide) (fun c21 => ?_) (fun c21 => ?_)
        · replace hf := z_f c21 hf
          refine lv_aload_n M.x M.b d_M_bought_47 rfl (lv_at hl 0 rfl) ?_
          replace hf := z_bind hf; obtain ⟨r9, e10, hf⟩ := hf
          refine z_get (ci := 8) (k := 1) M hH rfl (by decide) zinM q_570 (gA_spec e10) d_M_bought_48 ?_
          refine lv_bipush (v := (50 : Int32)) M.x M.b d_M_bought_51 rfl ?_
          refine lv_iload_n M.x M.b d_M_bought_53 rfl (lv_at hl 1 rfl) ?_
          refine lv_imul M.x M.b d_M_bought_54 ?_
          refine lv_iconst (v := (5 : Int32)) M.x M.b d_M_bought_55 rfl ?_
          refine lv_iload_n M.x M.b d_M_bought_56 rfl (lv_at hl 2 rfl) ?_
          refine lv_imul M.x M.b d_M_bought_57 ?_
          refine lv_iadd M.x M.b d_M_bought_58 ?_
          refine lv_iload_n M.x M.b d_M_bought_59 rfl (lv_at hl 3 rfl) ?_
          refine lv_iadd M.x M.b d_M_bought_60 ?_
          rcases r9 with _ | a11
          · exact absurd hf z_nb0
          replace hf := z_sb hf
          replace hf := z_bind hf; obtain ⟨i14, e13, hf⟩ := hf
          refine z_iald M hH e13 d_M_bought_61 ?_
          refine lv_istore (lv' := [(5, .int i14), (0, .ref this), (1, .int x1), (2, .int x2), (3, .int x3), (4, .int x4)]) M.x M.b d_M_bought_62 hl (by decide) rfl (fun ls hl => ?_)
          refine lv_aload_n M.x M.b d_M_bought_64 rfl (lv_at hl 1 rfl) ?_
          replace hf := z_bind hf; obtain ⟨r15, e16, hf⟩ := hf
          refine z_get (ci := 8) (k := 1) M hH rfl (by decide) zinM q_570 (gA_spec e16) d_M_bought_65 ?_
          refine lv_bipush (v := (50 : Int32)) M.x M.b d_M_bought_68 rfl ?_
          refine lv_iload_n M.x M.b d_M_bought_70 rfl (lv_at hl 2 rfl) ?_
          refine lv_imul M.x M.b d_M_bought_71 ?_
          refine lv_iconst (v := (5 : Int32)) M.x M.b d_M_bought_72 rfl ?_
          refine lv_iload_n M.x M.b d_M_bought_73 rfl (lv_at hl 3 rfl) ?_
          refine lv_imul M.x M.b d_M_bought_74 ?_
          refine lv_iadd M.x M.b d_M_bought_75 ?_
          refine lv_iload_n M.x M.b d_M_bought_76 rfl (lv_at hl 4 rfl) ?_
          refine lv_iadd M.x M.b d_M_bought_77 ?_
          refine lv_iload M.x M.b d_M_bought_78 (lv_at hl 5 rfl) ?_
          rcases r15 with _ | a17
          · exact absurd hf z_nb0
          replace hf := z_sb hf
          replace hf := z_bind hf; obtain ⟨h20, e19, hf⟩ := hf
          refine z_iast M hH hS e19 d_M_bought_80 (fun H locs hH hS => ?_)
          refine lv_iload M.x M.b d_M_bought_81 (lv_at hl 0 rfl) ?_
          obtain ⟨rfl, rfl⟩ := z_r2 hf
          exact z_iret M hH hS d_M_bought_83
        · replace hf := z_t c21 hf
          refine lv_sipush (v := (-1002 : Int32)) M.x M.b d_M_bought_43 rfl ?_
          obtain ⟨rfl, rfl⟩ := z_r2 hf
          exact z_iret M hH hS d_M_bought_46
      · replace hf := z_t c22 hf
        refine lv_sipush (v := (-1001 : Int32)) M.x M.b d_M_bought_26 rfl ?_
        obtain ⟨rfl, rfl⟩ := z_r2 hf
        exact z_iret M hH hS d_M_bought_29
def f_M_buying_45 (this : Nat) (h : Hp) (k6 : Int32 → Int32 → Int32 → Int32 → Int32 → Option (Int32)) (s0 : Int32) (s1 : Int32) (x1 : Int32) (x2 : Int32) (x3 : Int32) (x5 : Int32) : Option (Int32) :=
  k6 x1 x2 x3 (s0 + s1) (x5 + (1 : Int32))
set_option maxRecDepth 100000 in
set_option maxHeartbeats 4000000 in
theorem w_M_buying_45 {p : Program} {l : Launch} {e : Env} {s : State} {m : MethodId} {args : Array Value} {below : List Frame} {meth : Method} {c : Code} {N0 : Nat} {D : va_G} {cs : Nat → ClassId} (M : ZC p s m args meth c "YearBasketsModel" "buying" b_M_buying 6 (some .int) N0 D cs) (this : Nat) (h : Hp) (k6 : Int32 → Int32 → Int32 → Int32 → Int32 → Option (Int32)) {r0 : Int32} (hk6 : ∀ (x1 : Int32) (x2 : Int32) (x3 : Int32) (x4 : Int32) (x5 : Int32), k6 x1 x2 x3 x4 x5 = some r0 → ZG p l e (zrm 1 0 0) s m args below meth c N0 D cs (some (.int r0)) h h 6 [(0, .ref this), (1, .int x1), (2, .int x2), (3, .int x3), (4, .int x4), (5, .int x5)] 6 []) (s0 : Int32) (s1 : Int32) (x1 : Int32) (x2 : Int32) (x3 : Int32) (x5 : Int32) (hf : f_M_buying_45 this h k6 s0 s1 x1 x2 x3 x5 = some r0) : ZG p l e (zrm 1 0 0) s m args below meth c N0 D cs (some (.int r0)) h h 6 [(0, .ref this), (1, .int x1), (2, .int x2), (3, .int x3), (5, .int x5)] 45 [.int s1, .int s0] := by
  intro H locs ls hH hS hl
  unfold f_M_buying_45 at hf
  refine lv_iadd M.x M.b d_M_buying_45 ?_
  refine lv_istore (lv' := [(4, .int (s0 + s1)), (0, .ref this), (1, .int x1), (2, .int x2), (3, .int x3), (5, .int x5)]) M.x M.b d_M_buying_46 hl (by decide) rfl (fun ls hl => ?_)
  refine lv_iinc (v := (x5 + (1 : Int32))) (lv' := [(5, .int (x5 + (1 : Int32))), (4, .int (s0 + s1)), (0, .ref this), (1, .int x1), (2, .int x2), (3, .int x3)]) M.x M.b d_M_buying_48 hl (k := 5) rfl rfl (by decide) rfl (fun ls hl => ?_)
  refine lv_goto (tgt := 6) M.x M.b d_M_buying_51 (by decide) ?_
  exact hk6 _ _ _ _ _ hf H locs ls hH hS (lv_sub hl [2, 3, 4, 5, 1, 0] rfl)
def f_M_buying_25 (this : Nat) (h : Hp) (k6 : Int32 → Int32 → Int32 → Int32 → Int32 → Option (Int32)) (s0 : Int32) (x1 : Int32) (x2 : Int32) (x3 : Int32) (x5 : Int32) : Option (Int32) :=
  (gA h this 8 1).bind fun r1 =>
  (r1).bind fun a3 =>
  (aI h 0 a3 ((((50 : Int32) * x5) + ((5 : Int32) * x2)) + x3)).bind fun i6 =>
  f_M_buying_45 this h k6 s0 i6 x1 x2 x3 x5
set_option maxRecDepth 100000 in
set_option maxHeartbeats 4000000 in
theorem w_M_buying_25 {p : Program} {l : Launch} {e : Env} {s : State} {m : MethodId} {args : Array Value} {below : List Frame} {meth : Method} {c : Code} {N0 : Nat} {D : va_G} {cs : Nat → ClassId} (M : ZC p s m args meth c "YearBasketsModel" "buying" b_M_buying 6 (some .int) N0 D cs) (this : Nat) (h : Hp) (k6 : Int32 → Int32 → Int32 → Int32 → Int32 → Option (Int32)) {r0 : Int32} (hk6 : ∀ (x1 : Int32) (x2 : Int32) (x3 : Int32) (x4 : Int32) (x5 : Int32), k6 x1 x2 x3 x4 x5 = some r0 → ZG p l e (zrm 1 0 0) s m args below meth c N0 D cs (some (.int r0)) h h 6 [(0, .ref this), (1, .int x1), (2, .int x2), (3, .int x3), (4, .int x4), (5, .int x5)] 6 []) (s0 : Int32) (x1 : Int32) (x2 : Int32) (x3 : Int32) (x5 : Int32) (hf : f_M_buying_25 this h k6 s0 x1 x2 x3 x5 = some r0) : ZG p l e (zrm 1 0 0) s m args below meth c N0 D cs (some (.int r0)) h h 6 [(0, .ref this), (1, .int x1), (2, .int x2), (3, .int x3), (5, .int x5)] 25 [.int s0] := by
  intro H locs ls hH hS hl
  unfold f_M_buying_25 at hf
  refine lv_aload_n M.x M.b d_M_buying_25 rfl (lv_at hl 0 rfl) ?_
  replace hf := z_bind hf; obtain ⟨r1, e2, hf⟩ := hf
  refine z_get (ci := 8) (k := 1) M hH rfl (by decide) zinM q_570 (gA_spec e2) d_M_buying_26 ?_
  refine lv_bipush (v := (50 : Int32)) M.x M.b d_M_buying_29 rfl ?_
  refine lv_iload M.x M.b d_M_buying_31 (lv_at hl 4 rfl) ?_
  refine lv_imul M.x M.b d_M_buying_33 ?_
  refine lv_iconst (v := (5 : Int32)) M.x M.b d_M_buying_34 rfl ?_
  refine lv_iload_n M.x M.b d_M_buying_35 rfl (lv_at hl 2 rfl) ?_
  refine lv_imul M.x M.b d_M_buying_36 ?_
  refine lv_iadd M.x M.b d_M_buying_37 ?_
  refine lv_iload_n M.x M.b d_M_buying_38 rfl (lv_at hl 3 rfl) ?_
  refine lv_iadd M.x M.b d_M_buying_39 ?_
  rcases r1 with _ | a3
  · exact absurd hf z_nb0
  replace hf := z_sb hf
  replace hf := z_bind hf; obtain ⟨i6, e5, hf⟩ := hf
  refine z_iald M hH e5 d_M_buying_40 ?_
  refine lv_goto (tgt := 45) M.x M.b d_M_buying_41 (by decide) ?_
  exact w_M_buying_45 M this h k6 hk6 _ _ _ _ _ _ hf H locs ls hH hS (lv_sub hl [0, 1, 2, 3, 4] rfl)
def t_M_buying_6 (this : Nat) (h : Hp) (k6 : Int32 → Int32 → Int32 → Int32 → Int32 → Option (Int32)) (x1 : Int32) (x2 : Int32) (x3 : Int32) (x4 : Int32) (x5 : Int32) : Option (Int32) :=
  if (3 : Int32) ≤ x5 then
    some x4
  else
  if x1 = (3 : Int32) then
    f_M_buying_25 this h k6 x4 x1 x2 x3 x5
  else
  if x1 = x5 then
    f_M_buying_25 this h k6 x4 x1 x2 x3 x5
  else
  f_M_buying_45 this h k6 x4 (0 : Int32) x1 x2 x3 x5
set_option maxRecDepth 100000 in
set_option maxHeartbeats 4000000 in
theorem v_M_buying_6 {p : Program} {l : Launch} {e : Env} {s : State} {m : MethodId} {args : Array Value} {below : List Frame} {meth : Method} {c : Code} {N0 : Nat} {D : va_G} {cs : Nat → ClassId} (M : ZC p s m args meth c "YearBasketsModel" "buying" b_M_buying 6 (some .int) N0 D cs) (this : Nat) (h : Hp) (k6 : Int32 → Int32 → Int32 → Int32 → Int32 → Option (Int32)) {r0 : Int32} (hk6 : ∀ (x1 : Int32) (x2 : Int32) (x3 : Int32) (x4 : Int32) (x5 : Int32), k6 x1 x2 x3 x4 x5 = some r0 → ZG p l e (zrm 1 0 0) s m args below meth c N0 D cs (some (.int r0)) h h 6 [(0, .ref this), (1, .int x1), (2, .int x2), (3, .int x3), (4, .int x4), (5, .int x5)] 6 []) (x1 : Int32) (x2 : Int32) (x3 : Int32) (x4 : Int32) (x5 : Int32) (hf : t_M_buying_6 this h k6 x1 x2 x3 x4 x5 = some r0) : ZG p l e (zrm 1 0 0) s m args below meth c N0 D cs (some (.int r0)) h h 6 [(0, .ref this), (1, .int x1), (2, .int x2), (3, .int x3), (4, .int x4), (5, .int x5)] 6 [] := by
  intro H locs ls hH hS hl
  unfold t_M_buying_6 at hf
  refine lv_iload M.x M.b d_M_buying_6 (lv_at hl 5 rfl) ?_
  refine lv_iconst (v := (3 : Int32)) M.x M.b d_M_buying_8 rfl ?_
  refine lv_icmp_ge (tgt := 54) M.x M.b d_M_buying_9 (by decide) (fun c9 => ?_) (fun c9 => ?_)
  · replace hf := z_t c9 hf
    refine lv_iload M.x M.b d_M_buying_54 (lv_at hl 4 rfl) ?_
    obtain rfl := z_r1 hf
    exact z_iret M hH hS d_M_buying_56
  · replace hf := z_f c9 hf
    refine lv_iload M.x M.b d_M_buying_12 (lv_at hl 4 rfl) ?_
    refine lv_iload_n M.x M.b d_M_buying_14 rfl (lv_at hl 1 rfl) ?_
    refine lv_iconst (v := (3 : Int32)) M.x M.b d_M_buying_15 rfl ?_
    refine lv_icmp_eq (tgt := 25) M.x M.b d_M_buying_16 (by decide) (fun c8 => ?_) (fun c8 => ?_)
    · replace hf := z_t c8 hf
      exact w_M_buying_25 M this h k6 hk6 _ _ _ _ _ hf H locs ls hH hS (lv_sub hl [0, 1, 2, 3, 5] rfl)
    · replace hf := z_f c8 hf
      refine lv_iload_n M.x M.b d_M_buying_19 rfl (lv_at hl 1 rfl) ?_
      refine lv_iload M.x M.b d_M_buying_20 (lv_at hl 5 rfl) ?_
      refine lv_icmp_ne (tgt := 44) M.x M.b d_M_buying_22 (by decide) (fun c7 => ?_) (fun c7 => ?_)
      · replace hf := z_f c7 hf
        refine lv_iconst (v := (0 : Int32)) M.x M.b d_M_buying_44 rfl ?_
        exact w_M_buying_45 M this h k6 hk6 _ _ _ _ _ _ hf H locs ls hH hS (lv_sub hl [0, 1, 2, 3, 5] rfl)
      · replace hf := z_t c7 hf
        exact w_M_buying_25 M this h k6 hk6 _ _ _ _ _ hf H locs ls hH hS (lv_sub hl [0, 1, 2, 3, 5] rfl)
def f_M_buying_6 (this : Nat) (h : Hp) : Nat → Int32 → Int32 → Int32 → Int32 → Int32 → Option (Int32)
  | 0, _, _, _, _, _ => none
  | n + 1, x1, x2, x3, x4, x5 => t_M_buying_6 this h (f_M_buying_6 this h n) x1 x2 x3 x4 x5
theorem w_M_buying_6 {p : Program} {l : Launch} {e : Env} {s : State} {m : MethodId} {args : Array Value} {below : List Frame} {meth : Method} {c : Code} {N0 : Nat} {D : va_G} {cs : Nat → ClassId} (M : ZC p s m args meth c "YearBasketsModel" "buying" b_M_buying 6 (some .int) N0 D cs) (this : Nat) (h : Hp)  {r0 : Int32}  : ∀ (n : Nat) (x1 : Int32) (x2 : Int32) (x3 : Int32) (x4 : Int32) (x5 : Int32), f_M_buying_6 this h n x1 x2 x3 x4 x5 = some r0 → ZG p l e (zrm 1 0 0) s m args below meth c N0 D cs (some (.int r0)) h h 6 [(0, .ref this), (1, .int x1), (2, .int x2), (3, .int x3), (4, .int x4), (5, .int x5)] 6 [] := by
  intro n
  induction n with
  | zero => intro x1 x2 x3 x4 x5 hf; exact absurd (show none = some _ from hf) (fun q => by cases q)
  | succ n ih => intro x1 x2 x3 x4 x5 hf; exact v_M_buying_6 M this h (f_M_buying_6 this h n)  ih _ _ _ _ _ hf
def f_M_buying (this : Nat) (h : Hp) (x1 : Int32) (x2 : Int32) (x3 : Int32) : Option (Int32) :=
  if isO h this 8 = true then
  f_M_buying_6 this h FU x1 x2 x3 (0 : Int32) (0 : Int32)
  else none
theorem o_M_buying {this : Nat} {h : Hp} {x1 : Int32} {x2 : Int32} {x3 : Int32} {r0 : Int32} (hf : f_M_buying this h x1 x2 x3 = some r0) : isO h this 8 = true := by
  unfold f_M_buying at hf
  exact (z_gd hf).1
set_option maxRecDepth 100000 in
set_option maxHeartbeats 4000000 in
theorem c_M_buying {l : Launch} {N0 : Nat} {D : va_G} {cs : Nat → ClassId} {this : Nat} {h : Hp} {x1 : Int32} {x2 : Int32} {x3 : Int32} {r0 : Int32} (hf : f_M_buying this h x1 x2 x3 = some r0) : Fn l N0 D cs y_M_buying b_M_buying 6 (some .int) 1 0 0 [.ref this, .int x1, .int x2, .int x3] h (some (.int r0)) h := by
  refine z_start (by decide) (Nat.le_of_ble_eq_true rfl) ?_
  intro p e s m args below meth c M hH hS ls hl
  unfold f_M_buying at hf
  obtain ⟨hO, hf⟩ := z_gd hf
  have hl : lv_has ls 6 [(0, .ref this), (1, .int x1), (2, .int x2), (3, .int x3)] := hl
  obtain ⟨H, hHe⟩ : ∃ H, H = s.heap := ⟨_, rfl⟩
  obtain ⟨locs, hLe⟩ : ∃ locs : List Loc, locs = [] := ⟨_, rfl⟩
  have hS : va_S (zA N0) s.heap H locs := by rw [hHe, hLe]; exact hS
  have hH : HH N0 D cs h H := by rw [hHe]; exact hH
  suffices hg : W p l e (zrm 1 0 0) s m args below meth c H locs 0 0 (MQ below (zQ N0 D cs (some (.int r0)) h) args s 0 0 (zA N0)) (F0 m 0 ls []) by rw [hHe, hLe] at hg; exact hg
  clear hHe hLe
  refine lv_iconst (v := (0 : Int32)) M.x M.b d_M_buying_0 rfl ?_
  refine lv_istore (lv' := [(4, .int (0 : Int32)), (0, .ref this), (1, .int x1), (2, .int x2), (3, .int x3)]) M.x M.b d_M_buying_1 hl (by decide) rfl (fun ls hl => ?_)
  refine lv_iconst (v := (0 : Int32)) M.x M.b d_M_buying_3 rfl ?_
  refine lv_istore (lv' := [(5, .int (0 : Int32)), (4, .int (0 : Int32)), (0, .ref this), (1, .int x1), (2, .int x2), (3, .int x3)]) M.x M.b d_M_buying_4 hl (by decide) rfl (fun ls hl => ?_)
  exact w_M_buying_6 M this h FU _ _ _ _ _ hf H locs ls hH hS (lv_sub hl [2, 3, 4, 5, 1, 0] rfl)
def f_M_costOf_62 (this : Nat) (h : Hp) (k9 : Int32 → Int32 → Int32 → Int32 → Int32 → Int32 → Int32 → Option (Int32)) (s0 : Int32) (x1 : Int32) (x2 : Int32) (x3 : Int32) (x4 : Int32) (x5 : Int32) (x7 : Int32) (x8 : Int32) : Option (Int32) :=
  (gA h this 8 0).bind fun r1 =>
  (r1).bind fun a3 =>
  (aI h 0 a3 (((5 : Int32) * x2) + x7)).bind fun i6 =>
  k9 x1 x2 x3 x4 (x5 + (i6 * x8)) s0 (x7 + (1 : Int32))
set_option maxRecDepth 100000 in
set_option maxHeartbeats 4000000 in
theorem w_M_costOf_62 {p : Program} {l : Launch} {e : Env} {s : State} {m : MethodId} {args : Array Value} {below : List Frame} {meth : Method} {c : Code} {N0 : Nat} {D : va_G} {cs : Nat → ClassId} (M : ZC p s m args meth c "YearBasketsModel" "costOf" b_M_costOf 9 (some .int) N0 D cs) (this : Nat) (h : Hp) (k9 : Int32 → Int32 → Int32 → Int32 → Int32 → Int32 → Int32 → Option (Int32)) {r0 : Int32} (hk9 : ∀ (x1 : Int32) (x2 : Int32) (x3 : Int32) (x4 : Int32) (x5 : Int32) (x6 : Int32) (x7 : Int32), k9 x1 x2 x3 x4 x5 x6 x7 = some r0 → ZG p l e (zrm 2 0 0) s m args below meth c N0 D cs (some (.int r0)) h h 9 [(0, .ref this), (1, .int x1), (2, .int x2), (3, .int x3), (4, .int x4), (5, .int x5), (6, .int x6), (7, .int x7)] 9 []) (s0 : Int32) (x1 : Int32) (x2 : Int32) (x3 : Int32) (x4 : Int32) (x5 : Int32) (x7 : Int32) (x8 : Int32) (hf : f_M_costOf_62 this h k9 s0 x1 x2 x3 x4 x5 x7 x8 = some r0) : ZG p l e (zrm 2 0 0) s m args below meth c N0 D cs (some (.int r0)) h h 9 [(0, .ref this), (1, .int x1), (2, .int x2), (3, .int x3), (4, .int x4), (5, .int x5), (7, .int x7), (8, .int x8)] 62 [.int s0] := by
  intro H locs ls hH hS hl
  unfold f_M_costOf_62 at hf
  refine lv_istore (lv' := [(6, .int s0), (0, .ref this), (1, .int x1), (2, .int x2), (3, .int x3), (4, .int x4), (5, .int x5), (7, .int x7), (8, .int x8)]) M.x M.b d_M_costOf_62 hl (by decide) rfl (fun ls hl => ?_)
  refine lv_iload M.x M.b d_M_costOf_64 (lv_at hl 6 rfl) ?_
  refine lv_aload_n M.x M.b d_M_costOf_66 rfl (lv_at hl 1 rfl) ?_
  replace hf := z_bind hf; obtain ⟨r1, e2, hf⟩ := hf
  refine z_get (ci := 8) (k := 0) M hH rfl (by decide) zinM q_562 (gA_spec e2) d_M_costOf_67 ?_
  refine lv_iconst (v := (5 : Int32)) M.x M.b d_M_costOf_70 rfl ?_
  refine lv_iload_n M.x M.b d_M_costOf_71 rfl (lv_at hl 3 rfl) ?_
  refine lv_imul M.x M.b d_M_costOf_72 ?_
  refine lv_iload M.x M.b d_M_costOf_73 (lv_at hl 7 rfl) ?_
  refine lv_iadd M.x M.b d_M_costOf_75 ?_
  rcases r1 with _ | a3
  · exact absurd hf z_nb0
  replace hf := z_sb hf
  replace hf := z_bind hf; obtain ⟨i6, e5, hf⟩ := hf
  refine z_iald M hH e5 d_M_costOf_76 ?_
  refine lv_iload M.x M.b d_M_costOf_77 (lv_at hl 8 rfl) ?_
  refine lv_imul M.x M.b d_M_costOf_79 ?_
  refine lv_iadd M.x M.b d_M_costOf_80 ?_
  refine lv_istore (lv' := [(5, .int (x5 + (i6 * x8))), (6, .int s0), (0, .ref this), (1, .int x1), (2, .int x2), (3, .int x3), (4, .int x4), (7, .int x7), (8, .int x8)]) M.x M.b d_M_costOf_81 hl (by decide) rfl (fun ls hl => ?_)
  refine lv_iinc (v := (x7 + (1 : Int32))) (lv' := [(7, .int (x7 + (1 : Int32))), (5, .int (x5 + (i6 * x8))), (6, .int s0), (0, .ref this), (1, .int x1), (2, .int x2), (3, .int x3), (4, .int x4), (8, .int x8)]) M.x M.b d_M_costOf_83 hl (k := 7) rfl rfl (by decide) rfl (fun ls hl => ?_)
  refine lv_goto (tgt := 9) M.x M.b d_M_costOf_86 (by decide) ?_
  exact hk9 _ _ _ _ _ _ _ hf H locs ls hH hS (lv_sub hl [3, 4, 5, 6, 7, 1, 2, 0] rfl)
def f_M_costOf_61 (this : Nat) (h : Hp) (k9 : Int32 → Int32 → Int32 → Int32 → Int32 → Int32 → Int32 → Option (Int32)) (x1 : Int32) (x2 : Int32) (x3 : Int32) (x4 : Int32) (x5 : Int32) (x7 : Int32) (x8 : Int32) : Option (Int32) :=
  f_M_costOf_62 this h k9 (0 : Int32) x1 x2 x3 x4 x5 x7 x8
set_option maxRecDepth 100000 in
set_option maxHeartbeats 4000000 in
theorem w_M_costOf_61 {p : Program} {l : Launch} {e : Env} {s : State} {m : MethodId} {args : Array Value} {below : List Frame} {meth : Method} {c : Code} {N0 : Nat} {D : va_G} {cs : Nat → ClassId} (M : ZC p s m args meth c "YearBasketsModel" "costOf" b_M_costOf 9 (some .int) N0 D cs) (this : Nat) (h : Hp) (k9 : Int32 → Int32 → Int32 → Int32 → Int32 → Int32 → Int32 → Option (Int32)) {r0 : Int32} (hk9 : ∀ (x1 : Int32) (x2 : Int32) (x3 : Int32) (x4 : Int32) (x5 : Int32) (x6 : Int32) (x7 : Int32), k9 x1 x2 x3 x4 x5 x6 x7 = some r0 → ZG p l e (zrm 2 0 0) s m args below meth c N0 D cs (some (.int r0)) h h 9 [(0, .ref this), (1, .int x1), (2, .int x2), (3, .int x3), (4, .int x4), (5, .int x5), (6, .int x6), (7, .int x7)] 9 []) (x1 : Int32) (x2 : Int32) (x3 : Int32) (x4 : Int32) (x5 : Int32) (x7 : Int32) (x8 : Int32) (hf : f_M_costOf_61 this h k9 x1 x2 x3 x4 x5 x7 x8 = some r0) : ZG p l e (zrm 2 0 0) s m args below meth c N0 D cs (some (.int r0)) h h 9 [(0, .ref this), (1, .int x1), (2, .int x2), (3, .int x3), (4, .int x4), (5, .int x5), (7, .int x7), (8, .int x8)] 61 [] := by
  intro H locs ls hH hS hl
  unfold f_M_costOf_61 at hf
  refine lv_iconst (v := (0 : Int32)) M.x M.b d_M_costOf_61 rfl ?_
  exact w_M_costOf_62 M this h k9 hk9 _ _ _ _ _ _ _ _ hf H locs ls hH hS (lv_sub hl [0, 1, 2, 3, 4, 5, 6, 7] rfl)
def f_M_costOf_57 (this : Nat) (h : Hp) (k9 : Int32 → Int32 → Int32 → Int32 → Int32 → Int32 → Int32 → Option (Int32)) (x1 : Int32) (x2 : Int32) (x3 : Int32) (x4 : Int32) (x5 : Int32) (x7 : Int32) (x8 : Int32) : Option (Int32) :=
  f_M_costOf_62 this h k9 (1 : Int32) x1 x2 x3 x4 x5 x7 x8
set_option maxRecDepth 100000 in
set_option maxHeartbeats 4000000 in
theorem w_M_costOf_57 {p : Program} {l : Launch} {e : Env} {s : State} {m : MethodId} {args : Array Value} {below : List Frame} {meth : Method} {c : Code} {N0 : Nat} {D : va_G} {cs : Nat → ClassId} (M : ZC p s m args meth c "YearBasketsModel" "costOf" b_M_costOf 9 (some .int) N0 D cs) (this : Nat) (h : Hp) (k9 : Int32 → Int32 → Int32 → Int32 → Int32 → Int32 → Int32 → Option (Int32)) {r0 : Int32} (hk9 : ∀ (x1 : Int32) (x2 : Int32) (x3 : Int32) (x4 : Int32) (x5 : Int32) (x6 : Int32) (x7 : Int32), k9 x1 x2 x3 x4 x5 x6 x7 = some r0 → ZG p l e (zrm 2 0 0) s m args below meth c N0 D cs (some (.int r0)) h h 9 [(0, .ref this), (1, .int x1), (2, .int x2), (3, .int x3), (4, .int x4), (5, .int x5), (6, .int x6), (7, .int x7)] 9 []) (x1 : Int32) (x2 : Int32) (x3 : Int32) (x4 : Int32) (x5 : Int32) (x7 : Int32) (x8 : Int32) (hf : f_M_costOf_57 this h k9 x1 x2 x3 x4 x5 x7 x8 = some r0) : ZG p l e (zrm 2 0 0) s m args below meth c N0 D cs (some (.int r0)) h h 9 [(0, .ref this), (1, .int x1), (2, .int x2), (3, .int x3), (4, .int x4), (5, .int x5), (7, .int x7), (8, .int x8)] 57 [] := by
  intro H locs ls hH hS hl
  unfold f_M_costOf_57 at hf
  refine lv_iconst (v := (1 : Int32)) M.x M.b d_M_costOf_57 rfl ?_
  refine lv_goto (tgt := 62) M.x M.b d_M_costOf_58 (by decide) ?_
  exact w_M_costOf_62 M this h k9 hk9 _ _ _ _ _ _ _ _ hf H locs ls hH hS (lv_sub hl [0, 1, 2, 3, 4, 5, 6, 7] rfl)
def t_M_costOf_9 (this : Nat) (h : Hp) (k9 : Int32 → Int32 → Int32 → Int32 → Int32 → Int32 → Int32 → Option (Int32)) (x1 : Int32) (x2 : Int32) (x3 : Int32) (x4 : Int32) (x5 : Int32) (x6 : Int32) (x7 : Int32) : Option (Int32) :=
  if (5 : Int32) ≤ x7 then
    if x6 = 0 then
      some x5
    else
    some (-1 : Int32)
  else
  (f_M_buying this h x1 x3 x7).bind fun i9 =>
  if x6 = 0 then
    if (((x4 >>> (x7 &&& 31)) &&& (1 : Int32)) * i9) ≤ 0 then
      f_M_costOf_61 this h k9 x1 x2 x3 x4 x5 x7 (((x4 >>> (x7 &&& 31)) &&& (1 : Int32)) * i9)
    else
    (gA h this 8 0).bind fun r10 =>
    (r10).bind fun a12 =>
    (aI h 0 a12 (((5 : Int32) * x2) + x7)).bind fun i15 =>
    if i15 = 0 then
      f_M_costOf_57 this h k9 x1 x2 x3 x4 x5 x7 (((x4 >>> (x7 &&& 31)) &&& (1 : Int32)) * i9)
    else
    f_M_costOf_61 this h k9 x1 x2 x3 x4 x5 x7 (((x4 >>> (x7 &&& 31)) &&& (1 : Int32)) * i9)
  else
  f_M_costOf_57 this h k9 x1 x2 x3 x4 x5 x7 (((x4 >>> (x7 &&& 31)) &&& (1 : Int32)) * i9)
set_option maxRecDepth 100000 in
set_option maxHeartbeats 4000000 in
theorem v_M_costOf_9 {p : Program} {l : Launch} {e : Env} {s : State} {m : MethodId} {args : Array Value} {below : List Frame} {meth : Method} {c : Code} {N0 : Nat} {D : va_G} {cs : Nat → ClassId} (M : ZC p s m args meth c "YearBasketsModel" "costOf" b_M_costOf 9 (some .int) N0 D cs) (this : Nat) (h : Hp) (k9 : Int32 → Int32 → Int32 → Int32 → Int32 → Int32 → Int32 → Option (Int32)) {r0 : Int32} (hk9 : ∀ (x1 : Int32) (x2 : Int32) (x3 : Int32) (x4 : Int32) (x5 : Int32) (x6 : Int32) (x7 : Int32), k9 x1 x2 x3 x4 x5 x6 x7 = some r0 → ZG p l e (zrm 2 0 0) s m args below meth c N0 D cs (some (.int r0)) h h 9 [(0, .ref this), (1, .int x1), (2, .int x2), (3, .int x3), (4, .int x4), (5, .int x5), (6, .int x6), (7, .int x7)] 9 []) (x1 : Int32) (x2 : Int32) (x3 : Int32) (x4 : Int32) (x5 : Int32) (x6 : Int32) (x7 : Int32) (hf : t_M_costOf_9 this h k9 x1 x2 x3 x4 x5 x6 x7 = some r0) : ZG p l e (zrm 2 0 0) s m args below meth c N0 D cs (some (.int r0)) h h 9 [(0, .ref this), (1, .int x1), (2, .int x2), (3, .int x3), (4, .int x4), (5, .int x5), (6, .int x6), (7, .int x7)] 9 [] := by
  intro H locs ls hH hS hl
  unfold t_M_costOf_9 at hf
  refine lv_iload M.x M.b d_M_costOf_9 (lv_at hl 7 rfl) ?_
  refine lv_iconst (v := (5 : Int32)) M.x M.b d_M_costOf_11 rfl ?_
  refine lv_icmp_ge (tgt := 89) M.x M.b d_M_costOf_12 (by decide) (fun c19 => ?_) (fun c19 => ?_)
  · replace hf := z_t c19 hf
    refine lv_iload M.x M.b d_M_costOf_89 (lv_at hl 6 rfl) ?_
    refine lv_if_eq (tgt := 98) M.x M.b d_M_costOf_91 (by decide) (fun c7 => ?_) (fun c7 => ?_)
    · replace hf := z_t c7 hf
      refine lv_iload M.x M.b d_M_costOf_98 (lv_at hl 5 rfl) ?_
      obtain rfl := z_r1 hf
      exact z_iret M hH hS d_M_costOf_100
    · replace hf := z_f c7 hf
      refine lv_iconst (v := (-1 : Int32)) M.x M.b d_M_costOf_94 rfl ?_
      refine lv_goto (tgt := 100) M.x M.b d_M_costOf_95 (by decide) ?_
      obtain rfl := z_r1 hf
      exact z_iret M hH hS d_M_costOf_100
  · replace hf := z_f c19 hf
    refine lv_iload M.x M.b d_M_costOf_15 (lv_at hl 4 rfl) ?_
    refine lv_iload M.x M.b d_M_costOf_17 (lv_at hl 7 rfl) ?_
    refine lv_ishr M.x M.b d_M_costOf_19 ?_
    refine lv_iconst (v := (1 : Int32)) M.x M.b d_M_costOf_20 rfl ?_
    refine lv_iand M.x M.b d_M_costOf_21 ?_
    refine lv_aload_n M.x M.b d_M_costOf_22 rfl (lv_at hl 0 rfl) ?_
    refine lv_iload_n M.x M.b d_M_costOf_23 rfl (lv_at hl 1 rfl) ?_
    refine lv_iload_n M.x M.b d_M_costOf_24 rfl (lv_at hl 3 rfl) ?_
    refine lv_iload M.x M.b d_M_costOf_25 (lv_at hl 7 rfl) ?_
    replace hf := z_bind hf; obtain ⟨i9, e8, hf⟩ := hf
    refine zk_V (ci := 8) (st1 := [.int i9, .int ((x4 >>> (x7 &&& 31)) &&& (1 : Int32))]) M hH hS (c_M_buying e8) rfl (o_M_buying e8) w_M_buying q_577 [.int ((x4 >>> (x7 &&& 31)) &&& (1 : Int32))] rfl ⟨Nat.le_of_ble_eq_true rfl, Nat.le_of_ble_eq_true rfl⟩ hl.1 rfl rfl (Nat.le_of_ble_eq_true rfl) d_M_costOf_27 (fun H locs hH hS => ?_)
    refine lv_imul M.x M.b d_M_costOf_30 ?_
    refine lv_istore (lv' := [(8, .int (((x4 >>> (x7 &&& 31)) &&& (1 : Int32)) * i9)), (0, .ref this), (1, .int x1), (2, .int x2), (3, .int x3), (4, .int x4), (5, .int x5), (6, .int x6), (7, .int x7)]) M.x M.b d_M_costOf_31 hl (by decide) rfl (fun ls hl => ?_)
    refine lv_iload M.x M.b d_M_costOf_33 (lv_at hl 7 rfl) ?_
    refine lv_if_ne (tgt := 57) M.x M.b d_M_costOf_35 (by decide) (fun c18 => ?_) (fun c18 => ?_)
    · replace hf := z_f c18 hf
      exact w_M_costOf_57 M this h k9 hk9 _ _ _ _ _ _ _ hf H locs ls hH hS (lv_sub hl [1, 2, 3, 4, 5, 6, 8, 0] rfl)
    · replace hf := z_t c18 hf
      refine lv_iload M.x M.b d_M_costOf_38 (lv_at hl 0 rfl) ?_
      refine lv_if_le (tgt := 61) M.x M.b d_M_costOf_40 (by decide) (fun c17 => ?_) (fun c17 => ?_)
      · replace hf := z_t c17 hf
        exact w_M_costOf_61 M this h k9 hk9 _ _ _ _ _ _ _ hf H locs ls hH hS (lv_sub hl [1, 2, 3, 4, 5, 6, 8, 0] rfl)
      · replace hf := z_f c17 hf
        refine lv_aload_n M.x M.b d_M_costOf_43 rfl (lv_at hl 1 rfl) ?_
        replace hf := z_bind hf; obtain ⟨r10, e11, hf⟩ := hf
        refine z_get (ci := 8) (k := 0) M hH rfl (by decide) zinM q_562 (gA_spec e11) d_M_costOf_44 ?_
        refine lv_iconst (v := (5 : Int32)) M.x M.b d_M_costOf_47 rfl ?_
        refine lv_iload_n M.x M.b d_M_costOf_48 rfl (lv_at hl 3 rfl) ?_
        refine lv_imul M.x M.b d_M_costOf_49 ?_
        refine lv_iload M.x M.b d_M_costOf_50 (lv_at hl 8 rfl) ?_
        refine lv_iadd M.x M.b d_M_costOf_52 ?_
        rcases r10 with _ | a12
        · exact absurd hf z_nb0
        replace hf := z_sb hf
        replace hf := z_bind hf; obtain ⟨i15, e14, hf⟩ := hf
        refine z_iald M hH e14 d_M_costOf_53 ?_
        refine lv_if_ne (tgt := 61) M.x M.b d_M_costOf_54 (by decide) (fun c16 => ?_) (fun c16 => ?_)
        · replace hf := z_f c16 hf
          exact w_M_costOf_61 M this h k9 hk9 _ _ _ _ _ _ _ hf H locs ls hH hS (lv_sub hl [1, 2, 3, 4, 5, 6, 8, 0] rfl)
        · replace hf := z_t c16 hf
          exact w_M_costOf_57 M this h k9 hk9 _ _ _ _ _ _ _ hf H locs ls hH hS (lv_sub hl [1, 2, 3, 4, 5, 6, 8, 0] rfl)
def f_M_costOf_9 (this : Nat) (h : Hp) : Nat → Int32 → Int32 → Int32 → Int32 → Int32 → Int32 → Int32 → Option (Int32)
  | 0, _, _, _, _, _, _, _ => none
  | n + 1, x1, x2, x3, x4, x5, x6, x7 => t_M_costOf_9 this h (f_M_costOf_9 this h n) x1 x2 x3 x4 x5 x6 x7
theorem w_M_costOf_9 {p : Program} {l : Launch} {e : Env} {s : State} {m : MethodId} {args : Array Value} {below : List Frame} {meth : Method} {c : Code} {N0 : Nat} {D : va_G} {cs : Nat → ClassId} (M : ZC p s m args meth c "YearBasketsModel" "costOf" b_M_costOf 9 (some .int) N0 D cs) (this : Nat) (h : Hp)  {r0 : Int32}  : ∀ (n : Nat) (x1 : Int32) (x2 : Int32) (x3 : Int32) (x4 : Int32) (x5 : Int32) (x6 : Int32) (x7 : Int32), f_M_costOf_9 this h n x1 x2 x3 x4 x5 x6 x7 = some r0 → ZG p l e (zrm 2 0 0) s m args below meth c N0 D cs (some (.int r0)) h h 9 [(0, .ref this), (1, .int x1), (2, .int x2), (3, .int x3), (4, .int x4), (5, .int x5), (6, .int x6), (7, .int x7)] 9 [] := by
  intro n
  induction n with
  | zero => intro x1 x2 x3 x4 x5 x6 x7 hf; exact absurd (show none = some _ from hf) (fun q => by cases q)
  | succ n ih => intro x1 x2 x3 x4 x5 x6 x7 hf; exact v_M_costOf_9 M this h (f_M_costOf_9 this h n)  ih _ _ _ _ _ _ _ hf
def f_M_costOf (this : Nat) (h : Hp) (x1 : Int32) (x2 : Int32) (x3 : Int32) (x4 : Int32) : Option (Int32) :=
  if isO h this 8 = true then
  f_M_costOf_9 this h FU x1 x2 x3 x4 (0 : Int32) (0 : Int32) (0 : Int32)
  else none
theorem o_M_costOf {this : Nat} {h : Hp} {x1 : Int32} {x2 : Int32} {x3 : Int32} {x4 : Int32} {r0 : Int32} (hf : f_M_costOf this h x1 x2 x3 x4 = some r0) : isO h this 8 = true := by
  unfold f_M_costOf at hf
  exact (z_gd hf).1
set_option maxRecDepth 100000 in
set_option maxHeartbeats 4000000 in
theorem c_M_costOf {l : Launch} {N0 : Nat} {D : va_G} {cs : Nat → ClassId} {this : Nat} {h : Hp} {x1 : Int32} {x2 : Int32} {x3 : Int32} {x4 : Int32} {r0 : Int32} (hf : f_M_costOf this h x1 x2 x3 x4 = some r0) : Fn l N0 D cs y_M_costOf b_M_costOf 9 (some .int) 2 0 0 [.ref this, .int x1, .int x2, .int x3, .int x4] h (some (.int r0)) h := by
  refine z_start (by decide) (Nat.le_of_ble_eq_true rfl) ?_
  intro p e s m args below meth c M hH hS ls hl
  unfold f_M_costOf at hf
  obtain ⟨hO, hf⟩ := z_gd hf
  have hl : lv_has ls 9 [(0, .ref this), (1, .int x1), (2, .int x2), (3, .int x3), (4, .int x4)] := hl
  obtain ⟨H, hHe⟩ : ∃ H, H = s.heap := ⟨_, rfl⟩
  obtain ⟨locs, hLe⟩ : ∃ locs : List Loc, locs = [] := ⟨_, rfl⟩
  have hS : va_S (zA N0) s.heap H locs := by rw [hHe, hLe]; exact hS
  have hH : HH N0 D cs h H := by rw [hHe]; exact hH
  suffices hg : W p l e (zrm 2 0 0) s m args below meth c H locs 0 0 (MQ below (zQ N0 D cs (some (.int r0)) h) args s 0 0 (zA N0)) (F0 m 0 ls []) by rw [hHe, hLe] at hg; exact hg
  clear hHe hLe
  refine lv_iconst (v := (0 : Int32)) M.x M.b d_M_costOf_0 rfl ?_
  refine lv_istore (lv' := [(5, .int (0 : Int32)), (0, .ref this), (1, .int x1), (2, .int x2), (3, .int x3), (4, .int x4)]) M.x M.b d_M_costOf_1 hl (by decide) rfl (fun ls hl => ?_)
  refine lv_iconst (v := (0 : Int32)) M.x M.b d_M_costOf_3 rfl ?_
  refine lv_istore (lv' := [(6, .int (0 : Int32)), (5, .int (0 : Int32)), (0, .ref this), (1, .int x1), (2, .int x2), (3, .int x3), (4, .int x4)]) M.x M.b d_M_costOf_4 hl (by decide) rfl (fun ls hl => ?_)
  refine lv_iconst (v := (0 : Int32)) M.x M.b d_M_costOf_6 rfl ?_
  refine lv_istore (lv' := [(7, .int (0 : Int32)), (6, .int (0 : Int32)), (5, .int (0 : Int32)), (0, .ref this), (1, .int x1), (2, .int x2), (3, .int x3), (4, .int x4)]) M.x M.b d_M_costOf_7 hl (by decide) rfl (fun ls hl => ?_)
  exact w_M_costOf_9 M this h FU _ _ _ _ _ _ _ hf H locs ls hH hS (lv_sub hl [3, 4, 5, 6, 7, 2, 1, 0] rfl)
def f_M_cost (this : Nat) (h : Hp) (x1 : Int32) (x2 : Int32) (x3 : Int32) : Option (Int32) :=
  if isO h this 8 = true then
  (f_M_isWho x1).bind fun i2 =>
  if i2 = 0 then
    some (-1001 : Int32)
  else
  (f_M_isYear x2).bind fun i4 =>
  if i4 = 0 then
    some (-1001 : Int32)
  else
  (f_M_isYear x3).bind fun i6 =>
  if i6 = 0 then
    some (-1001 : Int32)
  else
  (f_M_costOf this h x1 x2 x3 (31 : Int32)).bind fun i8 =>
  if 0 ≤ i8 then
    some i8
  else
  some (-1003 : Int32)
  else none
theorem o_M_cost {this : Nat} {h : Hp} {x1 : Int32} {x2 : Int32} {x3 : Int32} {r0 : Int32} (hf : f_M_cost this h x1 x2 x3 = some r0) : isO h this 8 = true := by
  unfold f_M_cost at hf
  exact (z_gd hf).1
set_option maxRecDepth 100000 in
set_option maxHeartbeats 4000000 in
theorem c_M_cost {l : Launch} {N0 : Nat} {D : va_G} {cs : Nat → ClassId} {this : Nat} {h : Hp} {x1 : Int32} {x2 : Int32} {x3 : Int32} {r0 : Int32} (hf : f_M_cost this h x1 x2 x3 = some r0) : Fn l N0 D cs y_M_cost b_M_cost 5 (some .int) 3 0 0 [.ref this, .int x1, .int x2, .int x3] h (some (.int r0)) h := by
  refine z_start (by decide) (Nat.le_of_ble_eq_true rfl) ?_
  intro p e s m args below meth c M hH hS ls hl
  unfold f_M_cost at hf
  obtain ⟨hO, hf⟩ := z_gd hf
  have hl : lv_has ls 5 [(0, .ref this), (1, .int x1), (2, .int x2), (3, .int x3)] := hl
  obtain ⟨H, hHe⟩ : ∃ H, H = s.heap := ⟨_, rfl⟩
  obtain ⟨locs, hLe⟩ : ∃ locs : List Loc, locs = [] := ⟨_, rfl⟩
  have hS : va_S (zA N0) s.heap H locs := by rw [hHe, hLe]; exact hS
  have hH : HH N0 D cs h H := by rw [hHe]; exact hH
  suffices hg : W p l e (zrm 3 0 0) s m args below meth c H locs 0 0 (MQ below (zQ N0 D cs (some (.int r0)) h) args s 0 0 (zA N0)) (F0 m 0 ls []) by rw [hHe, hLe] at hg; exact hg
  clear hHe hLe
  refine lv_iload_n M.x M.b d_M_cost_0 rfl (lv_at hl 1 rfl) ?_
  replace hf := z_bind hf; obtain ⟨i2, e1, hf⟩ := hf
  refine zk_S (st1 := [.int i2]) M hH hS (c_M_isWho e1) w_M_isWho q_582 [] rfl ⟨Nat.le_of_ble_eq_true rfl, Nat.le_of_ble_eq_true rfl⟩ hl.1 rfl rfl (Nat.le_of_ble_eq_true rfl) d_M_cost_1 (fun H locs hH hS => ?_)
  refine lv_if_eq (tgt := 21) M.x M.b d_M_cost_4 (by decide) (fun c12 => ?_) (fun c12 => ?_)
  · replace hf := z_t c12 hf
    refine lv_sipush (v := (-1001 : Int32)) M.x M.b d_M_cost_21 rfl ?_
    obtain rfl := z_r1 hf
    exact z_iret M hH hS d_M_cost_24
  · replace hf := z_f c12 hf
    refine lv_iload_n M.x M.b d_M_cost_7 rfl (lv_at hl 2 rfl) ?_
    replace hf := z_bind hf; obtain ⟨i4, e3, hf⟩ := hf
    refine zk_S (st1 := [.int i4]) M hH hS (c_M_isYear e3) w_M_isYear q_564 [] rfl ⟨Nat.le_of_ble_eq_true rfl, Nat.le_of_ble_eq_true rfl⟩ hl.1 rfl rfl (Nat.le_of_ble_eq_true rfl) d_M_cost_8 (fun H locs hH hS => ?_)
    refine lv_if_eq (tgt := 21) M.x M.b d_M_cost_11 (by decide) (fun c11 => ?_) (fun c11 => ?_)
    · replace hf := z_t c11 hf
      refine lv_sipush (v := (-1001 : Int32)) M.x M.b d_M_cost_21 rfl ?_
      obtain rfl := z_r1 hf
      exact z_iret M hH hS d_M_cost_24
    · replace hf := z_f c11 hf
      refine lv_iload_n M.x M.b d_M_cost_14 rfl (lv_at hl 3 rfl) ?_
      replace hf := z_bind hf; obtain ⟨i6, e5, hf⟩ := hf
      refine zk_S (st1 := [.int i6]) M hH hS (c_M_isYear e5) w_M_isYear q_564 [] rfl ⟨Nat.le_of_ble_eq_true rfl, Nat.le_of_ble_eq_true rfl⟩ hl.1 rfl rfl (Nat.le_of_ble_eq_true rfl) d_M_cost_15 (fun H locs hH hS => ?_)
      refine lv_if_ne (tgt := 25) M.x M.b d_M_cost_18 (by decide) (fun c10 => ?_) (fun c10 => ?_)
      · replace hf := z_f c10 hf
        refine lv_aload_n M.x M.b d_M_cost_25 rfl (lv_at hl 0 rfl) ?_
        refine lv_iload_n M.x M.b d_M_cost_26 rfl (lv_at hl 1 rfl) ?_
        refine lv_iload_n M.x M.b d_M_cost_27 rfl (lv_at hl 2 rfl) ?_
        refine lv_iload_n M.x M.b d_M_cost_28 rfl (lv_at hl 3 rfl) ?_
        refine lv_bipush (v := (31 : Int32)) M.x M.b d_M_cost_29 rfl ?_
        replace hf := z_bind hf; obtain ⟨i8, e7, hf⟩ := hf
        refine zk_V (ci := 8) (st1 := [.int i8]) M hH hS (c_M_costOf e7) rfl (o_M_costOf e7) w_M_costOf q_581 [] rfl ⟨Nat.le_of_ble_eq_true rfl, Nat.le_of_ble_eq_true rfl⟩ hl.1 rfl rfl (Nat.le_of_ble_eq_true rfl) d_M_cost_31 (fun H locs hH hS => ?_)
        refine lv_istore (lv' := [(4, .int i8), (0, .ref this), (1, .int x1), (2, .int x2), (3, .int x3)]) M.x M.b d_M_cost_34 hl (by decide) rfl (fun ls hl => ?_)
        refine lv_iload M.x M.b d_M_cost_36 (lv_at hl 0 rfl) ?_
        refine lv_if_ge (tgt := 47) M.x M.b d_M_cost_38 (by decide) (fun c9 => ?_) (fun c9 => ?_)
        · replace hf := z_t c9 hf
          refine lv_iload M.x M.b d_M_cost_47 (lv_at hl 0 rfl) ?_
          obtain rfl := z_r1 hf
          exact z_iret M hH hS d_M_cost_49
        · replace hf := z_f c9 hf
          refine lv_sipush (v := (-1003 : Int32)) M.x M.b d_M_cost_41 rfl ?_
          refine lv_goto (tgt := 49) M.x M.b d_M_cost_44 (by decide) ?_
          obtain rfl := z_r1 hf
          exact z_iret M hH hS d_M_cost_49
      · replace hf := z_t c10 hf
        refine lv_sipush (v := (-1001 : Int32)) M.x M.b d_M_cost_21 rfl ?_
        obtain rfl := z_r1 hf
        exact z_iret M hH hS d_M_cost_24
def f_M_priced_30 (this : Nat) (h : Hp) (k4 : Int32 → Int32 → Int32 → Option (Int32)) (s0 : Int32) (s1 : Int32) (x1 : Int32) (x3 : Int32) : Option (Int32) :=
  k4 x1 (s0 ||| s1) (x3 + (1 : Int32))
set_option maxRecDepth 100000 in
set_option maxHeartbeats 4000000 in
theorem w_M_priced_30 {p : Program} {l : Launch} {e : Env} {s : State} {m : MethodId} {args : Array Value} {below : List Frame} {meth : Method} {c : Code} {N0 : Nat} {D : va_G} {cs : Nat → ClassId} (M : ZC p s m args meth c "YearBasketsModel" "priced" b_M_priced 4 (some .int) N0 D cs) (this : Nat) (h : Hp) (k4 : Int32 → Int32 → Int32 → Option (Int32)) {r0 : Int32} (hk4 : ∀ (x1 : Int32) (x2 : Int32) (x3 : Int32), k4 x1 x2 x3 = some r0 → ZG p l e (zrm 1 0 0) s m args below meth c N0 D cs (some (.int r0)) h h 4 [(0, .ref this), (1, .int x1), (2, .int x2), (3, .int x3)] 4 []) (s0 : Int32) (s1 : Int32) (x1 : Int32) (x3 : Int32) (hf : f_M_priced_30 this h k4 s0 s1 x1 x3 = some r0) : ZG p l e (zrm 1 0 0) s m args below meth c N0 D cs (some (.int r0)) h h 4 [(0, .ref this), (1, .int x1), (3, .int x3)] 30 [.int s1, .int s0] := by
  intro H locs ls hH hS hl
  unfold f_M_priced_30 at hf
  refine lv_ior M.x M.b d_M_priced_30 ?_
  refine lv_istore_n (lv' := [(2, .int (s0 ||| s1)), (0, .ref this), (1, .int x1), (3, .int x3)]) M.x M.b d_M_priced_31 rfl hl (by decide) rfl (fun ls hl => ?_)
  refine lv_iinc (v := (x3 + (1 : Int32))) (lv' := [(3, .int (x3 + (1 : Int32))), (2, .int (s0 ||| s1)), (0, .ref this), (1, .int x1)]) M.x M.b d_M_priced_32 hl (k := 3) rfl rfl (by decide) rfl (fun ls hl => ?_)
  refine lv_goto (tgt := 4) M.x M.b d_M_priced_35 (by decide) ?_
  exact hk4 _ _ _ hf H locs ls hH hS (lv_sub hl [2, 3, 1, 0] rfl)
def t_M_priced_4 (this : Nat) (h : Hp) (k4 : Int32 → Int32 → Int32 → Option (Int32)) (x1 : Int32) (x2 : Int32) (x3 : Int32) : Option (Int32) :=
  if (5 : Int32) ≤ x3 then
    some x2
  else
  (gA h this 8 0).bind fun r1 =>
  (r1).bind fun a3 =>
  (aI h 0 a3 (((5 : Int32) * x1) + x3)).bind fun i6 =>
  if i6 ≤ 0 then
    f_M_priced_30 this h k4 x2 (0 : Int32) x1 x3
  else
  f_M_priced_30 this h k4 x2 ((1 : Int32) <<< (x3 &&& 31)) x1 x3
set_option maxRecDepth 100000 in
set_option maxHeartbeats 4000000 in
theorem v_M_priced_4 {p : Program} {l : Launch} {e : Env} {s : State} {m : MethodId} {args : Array Value} {below : List Frame} {meth : Method} {c : Code} {N0 : Nat} {D : va_G} {cs : Nat → ClassId} (M : ZC p s m args meth c "YearBasketsModel" "priced" b_M_priced 4 (some .int) N0 D cs) (this : Nat) (h : Hp) (k4 : Int32 → Int32 → Int32 → Option (Int32)) {r0 : Int32} (hk4 : ∀ (x1 : Int32) (x2 : Int32) (x3 : Int32), k4 x1 x2 x3 = some r0 → ZG p l e (zrm 1 0 0) s m args below meth c N0 D cs (some (.int r0)) h h 4 [(0, .ref this), (1, .int x1), (2, .int x2), (3, .int x3)] 4 []) (x1 : Int32) (x2 : Int32) (x3 : Int32) (hf : t_M_priced_4 this h k4 x1 x2 x3 = some r0) : ZG p l e (zrm 1 0 0) s m args below meth c N0 D cs (some (.int r0)) h h 4 [(0, .ref this), (1, .int x1), (2, .int x2), (3, .int x3)] 4 [] := by
  intro H locs ls hH hS hl
  unfold t_M_priced_4 at hf
  refine lv_iload_n M.x M.b d_M_priced_4 rfl (lv_at hl 3 rfl) ?_
  refine lv_iconst (v := (5 : Int32)) M.x M.b d_M_priced_5 rfl ?_
  refine lv_icmp_ge (tgt := 38) M.x M.b d_M_priced_6 (by decide) (fun c8 => ?_) (fun c8 => ?_)
  · replace hf := z_t c8 hf
    refine lv_iload_n M.x M.b d_M_priced_38 rfl (lv_at hl 2 rfl) ?_
    obtain rfl := z_r1 hf
    exact z_iret M hH hS d_M_priced_39
  · replace hf := z_f c8 hf
    refine lv_iload_n M.x M.b d_M_priced_9 rfl (lv_at hl 2 rfl) ?_
    refine lv_aload_n M.x M.b d_M_priced_10 rfl (lv_at hl 0 rfl) ?_
    replace hf := z_bind hf; obtain ⟨r1, e2, hf⟩ := hf
    refine z_get (ci := 8) (k := 0) M hH rfl (by decide) zinM q_562 (gA_spec e2) d_M_priced_11 ?_
    refine lv_iconst (v := (5 : Int32)) M.x M.b d_M_priced_14 rfl ?_
    refine lv_iload_n M.x M.b d_M_priced_15 rfl (lv_at hl 1 rfl) ?_
    refine lv_imul M.x M.b d_M_priced_16 ?_
    refine lv_iload_n M.x M.b d_M_priced_17 rfl (lv_at hl 3 rfl) ?_
    refine lv_iadd M.x M.b d_M_priced_18 ?_
    rcases r1 with _ | a3
    · exact absurd hf z_nb0
    replace hf := z_sb hf
    replace hf := z_bind hf; obtain ⟨i6, e5, hf⟩ := hf
    refine z_iald M hH e5 d_M_priced_19 ?_
    refine lv_if_le (tgt := 29) M.x M.b d_M_priced_20 (by decide) (fun c7 => ?_) (fun c7 => ?_)
    · replace hf := z_t c7 hf
      refine lv_iconst (v := (0 : Int32)) M.x M.b d_M_priced_29 rfl ?_
      exact w_M_priced_30 M this h k4 hk4 _ _ _ _ hf H locs ls hH hS (lv_sub hl [0, 1, 3] rfl)
    · replace hf := z_f c7 hf
      refine lv_iconst (v := (1 : Int32)) M.x M.b d_M_priced_23 rfl ?_
      refine lv_iload_n M.x M.b d_M_priced_24 rfl (lv_at hl 3 rfl) ?_
      refine lv_ishl M.x M.b d_M_priced_25 ?_
      refine lv_goto (tgt := 30) M.x M.b d_M_priced_26 (by decide) ?_
      exact w_M_priced_30 M this h k4 hk4 _ _ _ _ hf H locs ls hH hS (lv_sub hl [0, 1, 3] rfl)
def f_M_priced_4 (this : Nat) (h : Hp) : Nat → Int32 → Int32 → Int32 → Option (Int32)
  | 0, _, _, _ => none
  | n + 1, x1, x2, x3 => t_M_priced_4 this h (f_M_priced_4 this h n) x1 x2 x3
theorem w_M_priced_4 {p : Program} {l : Launch} {e : Env} {s : State} {m : MethodId} {args : Array Value} {below : List Frame} {meth : Method} {c : Code} {N0 : Nat} {D : va_G} {cs : Nat → ClassId} (M : ZC p s m args meth c "YearBasketsModel" "priced" b_M_priced 4 (some .int) N0 D cs) (this : Nat) (h : Hp)  {r0 : Int32}  : ∀ (n : Nat) (x1 : Int32) (x2 : Int32) (x3 : Int32), f_M_priced_4 this h n x1 x2 x3 = some r0 → ZG p l e (zrm 1 0 0) s m args below meth c N0 D cs (some (.int r0)) h h 4 [(0, .ref this), (1, .int x1), (2, .int x2), (3, .int x3)] 4 [] := by
  intro n
  induction n with
  | zero => intro x1 x2 x3 hf; exact absurd (show none = some _ from hf) (fun q => by cases q)
  | succ n ih => intro x1 x2 x3 hf; exact v_M_priced_4 M this h (f_M_priced_4 this h n)  ih _ _ _ hf
def f_M_priced (this : Nat) (h : Hp) (x1 : Int32) : Option (Int32) :=
  if isO h this 8 = true then
  f_M_priced_4 this h FU x1 (0 : Int32) (0 : Int32)
  else none
theorem o_M_priced {this : Nat} {h : Hp} {x1 : Int32} {r0 : Int32} (hf : f_M_priced this h x1 = some r0) : isO h this 8 = true := by
  unfold f_M_priced at hf
  exact (z_gd hf).1
set_option maxRecDepth 100000 in
set_option maxHeartbeats 4000000 in
theorem c_M_priced {l : Launch} {N0 : Nat} {D : va_G} {cs : Nat → ClassId} {this : Nat} {h : Hp} {x1 : Int32} {r0 : Int32} (hf : f_M_priced this h x1 = some r0) : Fn l N0 D cs y_M_priced b_M_priced 4 (some .int) 1 0 0 [.ref this, .int x1] h (some (.int r0)) h := by
  refine z_start (by decide) (Nat.le_of_ble_eq_true rfl) ?_
  intro p e s m args below meth c M hH hS ls hl
  unfold f_M_priced at hf
  obtain ⟨hO, hf⟩ := z_gd hf
  have hl : lv_has ls 4 [(0, .ref this), (1, .int x1)] := hl
  obtain ⟨H, hHe⟩ : ∃ H, H = s.heap := ⟨_, rfl⟩
  obtain ⟨locs, hLe⟩ : ∃ locs : List Loc, locs = [] := ⟨_, rfl⟩
  have hS : va_S (zA N0) s.heap H locs := by rw [hHe, hLe]; exact hS
  have hH : HH N0 D cs h H := by rw [hHe]; exact hH
  suffices hg : W p l e (zrm 1 0 0) s m args below meth c H locs 0 0 (MQ below (zQ N0 D cs (some (.int r0)) h) args s 0 0 (zA N0)) (F0 m 0 ls []) by rw [hHe, hLe] at hg; exact hg
  clear hHe hLe
  refine lv_iconst (v := (0 : Int32)) M.x M.b d_M_priced_0 rfl ?_
  refine lv_istore_n (lv' := [(2, .int (0 : Int32)), (0, .ref this), (1, .int x1)]) M.x M.b d_M_priced_1 rfl hl (by decide) rfl (fun ls hl => ?_)
  refine lv_iconst (v := (0 : Int32)) M.x M.b d_M_priced_2 rfl ?_
  refine lv_istore_n (lv' := [(3, .int (0 : Int32)), (2, .int (0 : Int32)), (0, .ref this), (1, .int x1)]) M.x M.b d_M_priced_3 rfl hl (by decide) rfl (fun ls hl => ?_)
  exact w_M_priced_4 M this h FU _ _ _ hf H locs ls hH hS (lv_sub hl [2, 3, 1, 0] rfl)
def t_M_allGoods_4 (this : Nat) (h : Hp) (k4 : Int32 → Int32 → Option (Int32)) (x1 : Int32) (x2 : Int32) : Option (Int32) :=
  if (8 : Int32) ≤ x2 then
    some x1
  else
  (f_M_priced this h x2).bind fun i2 =>
  k4 (x1 ||| i2) (x2 + (1 : Int32))
set_option maxRecDepth 100000 in
set_option maxHeartbeats 4000000 in
theorem v_M_allGoods_4 {p : Program} {l : Launch} {e : Env} {s : State} {m : MethodId} {args : Array Value} {below : List Frame} {meth : Method} {c : Code} {N0 : Nat} {D : va_G} {cs : Nat → ClassId} (M : ZC p s m args meth c "YearBasketsModel" "allGoods" b_M_allGoods 3 (some .int) N0 D cs) (this : Nat) (h : Hp) (k4 : Int32 → Int32 → Option (Int32)) {r0 : Int32} (hk4 : ∀ (x1 : Int32) (x2 : Int32), k4 x1 x2 = some r0 → ZG p l e (zrm 2 0 0) s m args below meth c N0 D cs (some (.int r0)) h h 3 [(0, .ref this), (1, .int x1), (2, .int x2)] 4 []) (x1 : Int32) (x2 : Int32) (hf : t_M_allGoods_4 this h k4 x1 x2 = some r0) : ZG p l e (zrm 2 0 0) s m args below meth c N0 D cs (some (.int r0)) h h 3 [(0, .ref this), (1, .int x1), (2, .int x2)] 4 [] := by
  intro H locs ls hH hS hl
  unfold t_M_allGoods_4 at hf
  refine lv_iload_n M.x M.b d_M_allGoods_4 rfl (lv_at hl 2 rfl) ?_
  refine lv_bipush (v := (8 : Int32)) M.x M.b d_M_allGoods_5 rfl ?_
  refine lv_icmp_ge (tgt := 24) M.x M.b d_M_allGoods_7 (by decide) (fun c3 => ?_) (fun c3 => ?_)
  · replace hf := z_t c3 hf
    refine lv_iload_n M.x M.b d_M_allGoods_24 rfl (lv_at hl 1 rfl) ?_
    obtain rfl := z_r1 hf
    exact z_iret M hH hS d_M_allGoods_25
  · replace hf := z_f c3 hf
    refine lv_iload_n M.x M.b d_M_allGoods_10 rfl (lv_at hl 1 rfl) ?_
    refine lv_aload_n M.x M.b d_M_allGoods_11 rfl (lv_at hl 0 rfl) ?_
    refine lv_iload_n M.x M.b d_M_allGoods_12 rfl (lv_at hl 2 rfl) ?_
    replace hf := z_bind hf; obtain ⟨i2, e1, hf⟩ := hf
    refine zk_V (ci := 8) (st1 := [.int i2, .int x1]) M hH hS (c_M_priced e1) rfl (o_M_priced e1) w_M_priced q_589 [.int x1] rfl ⟨Nat.le_of_ble_eq_true rfl, Nat.le_of_ble_eq_true rfl⟩ hl.1 rfl rfl (Nat.le_of_ble_eq_true rfl) d_M_allGoods_13 (fun H locs hH hS => ?_)
    refine lv_ior M.x M.b d_M_allGoods_16 ?_
    refine lv_istore_n (lv' := [(1, .int (x1 ||| i2)), (0, .ref this), (2, .int x2)]) M.x M.b d_M_allGoods_17 rfl hl (by decide) rfl (fun ls hl => ?_)
    refine lv_iinc (v := (x2 + (1 : Int32))) (lv' := [(2, .int (x2 + (1 : Int32))), (1, .int (x1 ||| i2)), (0, .ref this)]) M.x M.b d_M_allGoods_18 hl (k := 2) rfl rfl (by decide) rfl (fun ls hl => ?_)
    refine lv_goto (tgt := 4) M.x M.b d_M_allGoods_21 (by decide) ?_
    exact hk4 _ _ hf H locs ls hH hS (lv_sub hl [2, 1, 0] rfl)
def f_M_allGoods_4 (this : Nat) (h : Hp) : Nat → Int32 → Int32 → Option (Int32)
  | 0, _, _ => none
  | n + 1, x1, x2 => t_M_allGoods_4 this h (f_M_allGoods_4 this h n) x1 x2
theorem w_M_allGoods_4 {p : Program} {l : Launch} {e : Env} {s : State} {m : MethodId} {args : Array Value} {below : List Frame} {meth : Method} {c : Code} {N0 : Nat} {D : va_G} {cs : Nat → ClassId} (M : ZC p s m args meth c "YearBasketsModel" "allGoods" b_M_allGoods 3 (some .int) N0 D cs) (this : Nat) (h : Hp)  {r0 : Int32}  : ∀ (n : Nat) (x1 : Int32) (x2 : Int32), f_M_allGoods_4 this h n x1 x2 = some r0 → ZG p l e (zrm 2 0 0) s m args below meth c N0 D cs (some (.int r0)) h h 3 [(0, .ref this), (1, .int x1), (2, .int x2)] 4 [] := by
  intro n
  induction n with
  | zero => intro x1 x2 hf; exact absurd (show none = some _ from hf) (fun q => by cases q)
  | succ n ih => intro x1 x2 hf; exact v_M_allGoods_4 M this h (f_M_allGoods_4 this h n)  ih _ _ hf
def f_M_allGoods (this : Nat) (h : Hp) : Option (Int32) :=
  if isO h this 8 = true then
  f_M_allGoods_4 this h FU (0 : Int32) (0 : Int32)
  else none
theorem o_M_allGoods {this : Nat} {h : Hp} {r0 : Int32} (hf : f_M_allGoods this h = some r0) : isO h this 8 = true := by
  unfold f_M_allGoods at hf
  exact (z_gd hf).1
set_option maxRecDepth 100000 in
set_option maxHeartbeats 4000000 in
theorem c_M_allGoods {l : Launch} {N0 : Nat} {D : va_G} {cs : Nat → ClassId} {this : Nat} {h : Hp} {r0 : Int32} (hf : f_M_allGoods this h = some r0) : Fn l N0 D cs y_M_allGoods b_M_allGoods 3 (some .int) 2 0 0 [.ref this] h (some (.int r0)) h := by
  refine z_start (by decide) (Nat.le_of_ble_eq_true rfl) ?_
  intro p e s m args below meth c M hH hS ls hl
  unfold f_M_allGoods at hf
  obtain ⟨hO, hf⟩ := z_gd hf
  have hl : lv_has ls 3 [(0, .ref this)] := hl
  obtain ⟨H, hHe⟩ : ∃ H, H = s.heap := ⟨_, rfl⟩
  obtain ⟨locs, hLe⟩ : ∃ locs : List Loc, locs = [] := ⟨_, rfl⟩
  have hS : va_S (zA N0) s.heap H locs := by rw [hHe, hLe]; exact hS
  have hH : HH N0 D cs h H := by rw [hHe]; exact hH
  suffices hg : W p l e (zrm 2 0 0) s m args below meth c H locs 0 0 (MQ below (zQ N0 D cs (some (.int r0)) h) args s 0 0 (zA N0)) (F0 m 0 ls []) by rw [hHe, hLe] at hg; exact hg
  clear hHe hLe
  refine lv_iconst (v := (0 : Int32)) M.x M.b d_M_allGoods_0 rfl ?_
  refine lv_istore_n (lv' := [(1, .int (0 : Int32)), (0, .ref this)]) M.x M.b d_M_allGoods_1 rfl hl (by decide) rfl (fun ls hl => ?_)
  refine lv_iconst (v := (0 : Int32)) M.x M.b d_M_allGoods_2 rfl ?_
  refine lv_istore_n (lv' := [(2, .int (0 : Int32)), (1, .int (0 : Int32)), (0, .ref this)]) M.x M.b d_M_allGoods_3 rfl hl (by decide) rfl (fun ls hl => ?_)
  exact w_M_allGoods_4 M this h FU _ _ hf H locs ls hH hS (lv_sub hl [2, 1, 0] rfl)
def f_M_goods (this : Nat) (h : Hp) (x1 : Int32) (x2 : Int32) (x3 : Int32) : Option (Int32) :=
  if isO h this 8 = true then
  (f_M_isYear x1).bind fun i2 =>
  if i2 = 0 then
    some (-1001 : Int32)
  else
  (f_M_isYear x2).bind fun i4 =>
  if i4 = 0 then
    some (-1001 : Int32)
  else
  (f_M_in (x3).toInt64 (0 : Int64) (2 : Int64)).bind fun i6 =>
  if i6 = 0 then
    some (-1002 : Int32)
  else
  if x3 = 0 then
    (f_M_priced this h x2).bind fun i15 =>
    (f_M_priced this h x1).bind fun i17 =>
    some (i15 &&& (i17 ^^^ (-1 : Int32)))
  else
  if x3 = (1 : Int32) then
    (f_M_priced this h x1).bind fun i10 =>
    (f_M_priced this h x2).bind fun i12 =>
    some (i10 &&& (i12 ^^^ (-1 : Int32)))
  else
  (f_M_allGoods this h).bind fun i8 =>
  some i8
  else none
theorem o_M_goods {this : Nat} {h : Hp} {x1 : Int32} {x2 : Int32} {x3 : Int32} {r0 : Int32} (hf : f_M_goods this h x1 x2 x3 = some r0) : isO h this 8 = true := by
  unfold f_M_goods at hf
  exact (z_gd hf).1
set_option maxRecDepth 100000 in
set_option maxHeartbeats 4000000 in
theorem c_M_goods {l : Launch} {N0 : Nat} {D : va_G} {cs : Nat → ClassId} {this : Nat} {h : Hp} {x1 : Int32} {x2 : Int32} {x3 : Int32} {r0 : Int32} (hf : f_M_goods this h x1 x2 x3 = some r0) : Fn l N0 D cs y_M_goods b_M_goods 4 (some .int) 3 0 0 [.ref this, .int x1, .int x2, .int x3] h (some (.int r0)) h := by
  refine z_start (by decide) (Nat.le_of_ble_eq_true rfl) ?_
  intro p e s m args below meth c M hH hS ls hl
  unfold f_M_goods at hf
  obtain ⟨hO, hf⟩ := z_gd hf
  have hl : lv_has ls 4 [(0, .ref this), (1, .int x1), (2, .int x2), (3, .int x3)] := hl
  obtain ⟨H, hHe⟩ : ∃ H, H = s.heap := ⟨_, rfl⟩
  obtain ⟨locs, hLe⟩ : ∃ locs : List Loc, locs = [] := ⟨_, rfl⟩
  have hS : va_S (zA N0) s.heap H locs := by rw [hHe, hLe]; exact hS
  have hH : HH N0 D cs h H := by rw [hHe]; exact hH
  suffices hg : W p l e (zrm 3 0 0) s m args below meth c H locs 0 0 (MQ below (zQ N0 D cs (some (.int r0)) h) args s 0 0 (zA N0)) (F0 m 0 ls []) by rw [hHe, hLe] at hg; exact hg
  clear hHe hLe
  refine lv_iload_n M.x M.b d_M_goods_0 rfl (lv_at hl 1 rfl) ?_
  replace hf := z_bind hf; obtain ⟨i2, e1, hf⟩ := hf
  refine zk_S (st1 := [.int i2]) M hH hS (c_M_isYear e1) w_M_isYear q_564 [] rfl ⟨Nat.le_of_ble_eq_true rfl, Nat.le_of_ble_eq_true rfl⟩ hl.1 rfl rfl (Nat.le_of_ble_eq_true rfl) d_M_goods_1 (fun H locs hH hS => ?_)
  refine lv_if_eq (tgt := 14) M.x M.b d_M_goods_4 (by decide) (fun c21 => ?_) (fun c21 => ?_)
  · replace hf := z_t c21 hf
    refine lv_sipush (v := (-1001 : Int32)) M.x M.b d_M_goods_14 rfl ?_
    obtain rfl := z_r1 hf
    exact z_iret M hH hS d_M_goods_17
  · replace hf := z_f c21 hf
    refine lv_iload_n M.x M.b d_M_goods_7 rfl (lv_at hl 2 rfl) ?_
    replace hf := z_bind hf; obtain ⟨i4, e3, hf⟩ := hf
    refine zk_S (st1 := [.int i4]) M hH hS (c_M_isYear e3) w_M_isYear q_564 [] rfl ⟨Nat.le_of_ble_eq_true rfl, Nat.le_of_ble_eq_true rfl⟩ hl.1 rfl rfl (Nat.le_of_ble_eq_true rfl) d_M_goods_8 (fun H locs hH hS => ?_)
    refine lv_if_ne (tgt := 18) M.x M.b d_M_goods_11 (by decide) (fun c20 => ?_) (fun c20 => ?_)
    · replace hf := z_f c20 hf
      refine lv_iload_n M.x M.b d_M_goods_18 rfl (lv_at hl 3 rfl) ?_
      refine lv_i2l M.x M.b d_M_goods_19 rfl ?_
      refine lv_lconst (v := (0 : Int64)) M.x M.b d_M_goods_20 rfl ?_
      refine z_ldc2 (v := (2 : Int64)) M q_568 d_M_goods_21 ?_
      replace hf := z_bind hf; obtain ⟨i6, e5, hf⟩ := hf
      refine zk_S (st1 := [.int i6]) M hH hS (c_M_in e5) w_M_in q_551 [] rfl ⟨Nat.le_of_ble_eq_true rfl, Nat.le_of_ble_eq_true rfl⟩ hl.1 rfl rfl (Nat.le_of_ble_eq_true rfl) d_M_goods_24 (fun H locs hH hS => ?_)
      refine lv_if_ne (tgt := 34) M.x M.b d_M_goods_27 (by decide) (fun c19 => ?_) (fun c19 => ?_)
      · replace hf := z_f c19 hf
        refine lv_iload_n M.x M.b d_M_goods_34 rfl (lv_at hl 3 rfl) ?_
        refine lv_if_ne (tgt := 54) M.x M.b d_M_goods_35 (by decide) (fun c18 => ?_) (fun c18 => ?_)
        · replace hf := z_f c18 hf
          refine lv_iload_n M.x M.b d_M_goods_54 rfl (lv_at hl 3 rfl) ?_
          refine lv_iconst (v := (1 : Int32)) M.x M.b d_M_goods_55 rfl ?_
          refine lv_icmp_ne (tgt := 75) M.x M.b d_M_goods_56 (by decide) (fun c13 => ?_) (fun c13 => ?_)
          · replace hf := z_f c13 hf
            refine lv_aload_n M.x M.b d_M_goods_75 rfl (lv_at hl 0 rfl) ?_
            replace hf := z_bind hf; obtain ⟨i8, e7, hf⟩ := hf
            refine zk_V (ci := 8) (st1 := [.int i8]) M hH hS (c_M_allGoods e7) rfl (o_M_allGoods e7) w_M_allGoods q_593 [] rfl ⟨Nat.le_of_ble_eq_true rfl, Nat.le_of_ble_eq_true rfl⟩ hl.1 rfl rfl (Nat.le_of_ble_eq_true rfl) d_M_goods_76 (fun H locs hH hS => ?_)
            obtain rfl := z_r1 hf
            exact z_iret M hH hS d_M_goods_79
          · replace hf := z_t c13 hf
            refine lv_aload_n M.x M.b d_M_goods_59 rfl (lv_at hl 0 rfl) ?_
            refine lv_iload_n M.x M.b d_M_goods_60 rfl (lv_at hl 1 rfl) ?_
            replace hf := z_bind hf; obtain ⟨i10, e9, hf⟩ := hf
            refine zk_V (ci := 8) (st1 := [.int i10]) M hH hS (c_M_priced e9) rfl (o_M_priced e9) w_M_priced q_589 [] rfl ⟨Nat.le_of_ble_eq_true rfl, Nat.le_of_ble_eq_true rfl⟩ hl.1 rfl rfl (Nat.le_of_ble_eq_true rfl) d_M_goods_61 (fun H locs hH hS => ?_)
            refine lv_aload_n M.x M.b d_M_goods_64 rfl (lv_at hl 0 rfl) ?_
            refine lv_iload_n M.x M.b d_M_goods_65 rfl (lv_at hl 2 rfl) ?_
            replace hf := z_bind hf; obtain ⟨i12, e11, hf⟩ := hf
            refine zk_V (ci := 8) (st1 := [.int i12, .int i10]) M hH hS (c_M_priced e11) rfl (o_M_priced e11) w_M_priced q_589 [.int i10] rfl ⟨Nat.le_of_ble_eq_true rfl, Nat.le_of_ble_eq_true rfl⟩ hl.1 rfl rfl (Nat.le_of_ble_eq_true rfl) d_M_goods_66 (fun H locs hH hS => ?_)
            refine lv_iconst (v := (-1 : Int32)) M.x M.b d_M_goods_69 rfl ?_
            refine lv_ixor M.x M.b d_M_goods_70 ?_
            refine lv_iand M.x M.b d_M_goods_71 ?_
            refine lv_goto (tgt := 79) M.x M.b d_M_goods_72 (by decide) ?_
            obtain rfl := z_r1 hf
            exact z_iret M hH hS d_M_goods_79
        · replace hf := z_t c18 hf
          refine lv_aload_n M.x M.b d_M_goods_38 rfl (lv_at hl 0 rfl) ?_
          refine lv_iload_n M.x M.b d_M_goods_39 rfl (lv_at hl 2 rfl) ?_
          replace hf := z_bind hf; obtain ⟨i15, e14, hf⟩ := hf
          refine zk_V (ci := 8) (st1 := [.int i15]) M hH hS (c_M_priced e14) rfl (o_M_priced e14) w_M_priced q_589 [] rfl ⟨Nat.le_of_ble_eq_true rfl, Nat.le_of_ble_eq_true rfl⟩ hl.1 rfl rfl (Nat.le_of_ble_eq_true rfl) d_M_goods_40 (fun H locs hH hS => ?_)
          refine lv_aload_n M.x M.b d_M_goods_43 rfl (lv_at hl 0 rfl) ?_
          refine lv_iload_n M.x M.b d_M_goods_44 rfl (lv_at hl 1 rfl) ?_
          replace hf := z_bind hf; obtain ⟨i17, e16, hf⟩ := hf
          refine zk_V (ci := 8) (st1 := [.int i17, .int i15]) M hH hS (c_M_priced e16) rfl (o_M_priced e16) w_M_priced q_589 [.int i15] rfl ⟨Nat.le_of_ble_eq_true rfl, Nat.le_of_ble_eq_true rfl⟩ hl.1 rfl rfl (Nat.le_of_ble_eq_true rfl) d_M_goods_45 (fun H locs hH hS => ?_)
          refine lv_iconst (v := (-1 : Int32)) M.x M.b d_M_goods_48 rfl ?_
          refine lv_ixor M.x M.b d_M_goods_49 ?_
          refine lv_iand M.x M.b d_M_goods_50 ?_
          refine lv_goto (tgt := 79) M.x M.b d_M_goods_51 (by decide) ?_
          obtain rfl := z_r1 hf
          exact z_iret M hH hS d_M_goods_79
      · replace hf := z_t c19 hf
        refine lv_sipush (v := (-1002 : Int32)) M.x M.b d_M_goods_30 rfl ?_
        obtain rfl := z_r1 hf
        exact z_iret M hH hS d_M_goods_33
    · replace hf := z_t c20 hf
      refine lv_sipush (v := (-1001 : Int32)) M.x M.b d_M_goods_14 rfl ?_
      obtain rfl := z_r1 hf
      exact z_iret M hH hS d_M_goods_17
def f_M_count_94 (this : Nat) (h : Hp) (k71 : Int32 → Int32 → Int32 → Int32 → Int32 → Option (Int32)) (s0 : Int32) (s1 : Int32) (x1 : Int32) (x2 : Int32) (x3 : Int32) (x5 : Int32) : Option (Int32) :=
  k71 x1 x2 x3 (s0 + s1) (x5 + (1 : Int32))
set_option maxRecDepth 100000 in
set_option maxHeartbeats 4000000 in
theorem w_M_count_94 {p : Program} {l : Launch} {e : Env} {s : State} {m : MethodId} {args : Array Value} {below : List Frame} {meth : Method} {c : Code} {N0 : Nat} {D : va_G} {cs : Nat → ClassId} (M : ZC p s m args meth c "YearBasketsModel" "count" b_M_count 6 (some .int) N0 D cs) (this : Nat) (h : Hp) (k71 : Int32 → Int32 → Int32 → Int32 → Int32 → Option (Int32)) {r0 : Int32} (hk71 : ∀ (x1 : Int32) (x2 : Int32) (x3 : Int32) (x4 : Int32) (x5 : Int32), k71 x1 x2 x3 x4 x5 = some r0 → ZG p l e (zrm 3 0 0) s m args below meth c N0 D cs (some (.int r0)) h h 6 [(0, .ref this), (1, .int x1), (2, .int x2), (3, .int x3), (4, .int x4), (5, .int x5)] 71 []) (s0 : Int32) (s1 : Int32) (x1 : Int32) (x2 : Int32) (x3 : Int32) (x5 : Int32) (hf : f_M_count_94 this h k71 s0 s1 x1 x2 x3 x5 = some r0) : ZG p l e (zrm 3 0 0) s m args below meth c N0 D cs (some (.int r0)) h h 6 [(0, .ref this), (1, .int x1), (2, .int x2), (3, .int x3), (5, .int x5)] 94 [.int s1, .int s0] := by
  intro H locs ls hH hS hl
  unfold f_M_count_94 at hf
  refine lv_iadd M.x M.b d_M_count_94 ?_
  refine lv_istore (lv' := [(4, .int (s0 + s1)), (0, .ref this), (1, .int x1), (2, .int x2), (3, .int x3), (5, .int x5)]) M.x M.b d_M_count_95 hl (by decide) rfl (fun ls hl => ?_)
  refine lv_iinc (v := (x5 + (1 : Int32))) (lv' := [(5, .int (x5 + (1 : Int32))), (4, .int (s0 + s1)), (0, .ref this), (1, .int x1), (2, .int x2), (3, .int x3)]) M.x M.b d_M_count_97 hl (k := 5) rfl rfl (by decide) rfl (fun ls hl => ?_)
  refine lv_goto (tgt := 71) M.x M.b d_M_count_100 (by decide) ?_
  exact hk71 _ _ _ _ _ hf H locs ls hH hS (lv_sub hl [2, 3, 4, 5, 1, 0] rfl)
def t_M_count_71 (this : Nat) (h : Hp) (k71 : Int32 → Int32 → Int32 → Int32 → Int32 → Option (Int32)) (x1 : Int32) (x2 : Int32) (x3 : Int32) (x4 : Int32) (x5 : Int32) : Option (Int32) :=
  if (8 : Int32) ≤ x5 then
    if x1 = (0 : Int32) then
      (gI h this 8 2).bind fun i2 =>
      some i2
    else
    if x1 = (1 : Int32) then
      (gI h this 8 6).bind fun i5 =>
      some i5
    else
    if x1 = (2 : Int32) then
      some x2
    else
    if x1 = (3 : Int32) then
      some x3
    else
    if x1 = (4 : Int32) then
      some x4
    else
    some (-1002 : Int32)
  else
  (f_M_priced this h x5).bind fun i11 =>
  if i11 = 0 then
    f_M_count_94 this h k71 x4 (0 : Int32) x1 x2 x3 x5
  else
  f_M_count_94 this h k71 x4 (1 : Int32) x1 x2 x3 x5
set_option maxRecDepth 100000 in
set_option maxHeartbeats 4000000 in
theorem v_M_count_71 {p : Program} {l : Launch} {e : Env} {s : State} {m : MethodId} {args : Array Value} {below : List Frame} {meth : Method} {c : Code} {N0 : Nat} {D : va_G} {cs : Nat → ClassId} (M : ZC p s m args meth c "YearBasketsModel" "count" b_M_count 6 (some .int) N0 D cs) (this : Nat) (h : Hp) (k71 : Int32 → Int32 → Int32 → Int32 → Int32 → Option (Int32)) {r0 : Int32} (hk71 : ∀ (x1 : Int32) (x2 : Int32) (x3 : Int32) (x4 : Int32) (x5 : Int32), k71 x1 x2 x3 x4 x5 = some r0 → ZG p l e (zrm 3 0 0) s m args below meth c N0 D cs (some (.int r0)) h h 6 [(0, .ref this), (1, .int x1), (2, .int x2), (3, .int x3), (4, .int x4), (5, .int x5)] 71 []) (x1 : Int32) (x2 : Int32) (x3 : Int32) (x4 : Int32) (x5 : Int32) (hf : t_M_count_71 this h k71 x1 x2 x3 x4 x5 = some r0) : ZG p l e (zrm 3 0 0) s m args below meth c N0 D cs (some (.int r0)) h h 6 [(0, .ref this), (1, .int x1), (2, .int x2), (3, .int x3), (4, .int x4), (5, .int x5)] 71 [] := by
  intro H locs ls hH hS hl
  unfold t_M_count_71 at hf
  refine lv_iload M.x M.b d_M_count_71 (lv_at hl 5 rfl) ?_
  refine lv_bipush (v := (8 : Int32)) M.x M.b d_M_count_73 rfl ?_
  refine lv_icmp_ge (tgt := 103) M.x M.b d_M_count_75 (by decide) (fun c13 => ?_) (fun c13 => ?_)
  · replace hf := z_t c13 hf
    refine lv_iload_n M.x M.b d_M_count_103 rfl (lv_at hl 1 rfl) ?_
    by_cases c1 : x1 = (0 : Int32)
    · replace hf := z_t c1 hf
      refine lv_tableIn (tgt := 140) (off := 36) M.x M.b d_M_count_104 (by rw [c1]; decide) (by rw [c1]; decide) (by rw [c1]; rfl) (by decide) ?_
      refine lv_aload_n M.x M.b d_M_count_140 rfl (lv_at hl 0 rfl) ?_
      replace hf := z_bind hf; obtain ⟨i2, e3, hf⟩ := hf
      refine z_get (ci := 8) (k := 2) M hH rfl (by decide) zinM q_597 (gI_spec e3) d_M_count_141 ?_
      obtain rfl := z_r1 hf
      exact z_iret M hH hS d_M_count_144
    replace hf := z_f c1 hf
    by_cases c4 : x1 = (1 : Int32)
    · replace hf := z_t c4 hf
      refine lv_tableIn (tgt := 145) (off := 41) M.x M.b d_M_count_104 (by rw [c4]; decide) (by rw [c4]; decide) (by rw [c4]; rfl) (by decide) ?_
      refine lv_aload_n M.x M.b d_M_count_145 rfl (lv_at hl 0 rfl) ?_
      replace hf := z_bind hf; obtain ⟨i5, e6, hf⟩ := hf
      refine z_get (ci := 8) (k := 6) M hH rfl (by decide) zinM q_598 (gI_spec e6) d_M_count_146 ?_
      obtain rfl := z_r1 hf
      exact z_iret M hH hS d_M_count_149
    replace hf := z_f c4 hf
    by_cases c7 : x1 = (2 : Int32)
    · replace hf := z_t c7 hf
      refine lv_tableIn (tgt := 150) (off := 46) M.x M.b d_M_count_104 (by rw [c7]; decide) (by rw [c7]; decide) (by rw [c7]; rfl) (by decide) ?_
      refine lv_iload_n M.x M.b d_M_count_150 rfl (lv_at hl 2 rfl) ?_
      obtain rfl := z_r1 hf
      exact z_iret M hH hS d_M_count_151
    replace hf := z_f c7 hf
    by_cases c8 : x1 = (3 : Int32)
    · replace hf := z_t c8 hf
      refine lv_tableIn (tgt := 152) (off := 48) M.x M.b d_M_count_104 (by rw [c8]; decide) (by rw [c8]; decide) (by rw [c8]; rfl) (by decide) ?_
      refine lv_iload_n M.x M.b d_M_count_152 rfl (lv_at hl 3 rfl) ?_
      obtain rfl := z_r1 hf
      exact z_iret M hH hS d_M_count_153
    replace hf := z_f c8 hf
    by_cases c9 : x1 = (4 : Int32)
    · replace hf := z_t c9 hf
      refine lv_tableIn (tgt := 154) (off := 50) M.x M.b d_M_count_104 (by rw [c9]; decide) (by rw [c9]; decide) (by rw [c9]; rfl) (by decide) ?_
      refine lv_iload M.x M.b d_M_count_154 (lv_at hl 4 rfl) ?_
      obtain rfl := z_r1 hf
      exact z_iret M hH hS d_M_count_156
    replace hf := z_f c9 hf
    refine lv_tableOut (tgt := 157) M.x M.b d_M_count_104 (by have tc1 := lv_neT (a := 0) c1 (by decide); have tc4 := lv_neT (a := 1) c4 (by decide); have tc7 := lv_neT (a := 2) c7 (by decide); have tc8 := lv_neT (a := 3) c8 (by decide); have tc9 := lv_neT (a := 4) c9 (by decide); omega) (by decide) ?_
    refine lv_sipush (v := (-1002 : Int32)) M.x M.b d_M_count_157 rfl ?_
    obtain rfl := z_r1 hf
    exact z_iret M hH hS d_M_count_160
  · replace hf := z_f c13 hf
    refine lv_iload M.x M.b d_M_count_78 (lv_at hl 4 rfl) ?_
    refine lv_aload_n M.x M.b d_M_count_80 rfl (lv_at hl 0 rfl) ?_
    refine lv_iload M.x M.b d_M_count_81 (lv_at hl 5 rfl) ?_
    replace hf := z_bind hf; obtain ⟨i11, e10, hf⟩ := hf
    refine zk_V (ci := 8) (st1 := [.int i11, .int x4]) M hH hS (c_M_priced e10) rfl (o_M_priced e10) w_M_priced q_589 [.int x4] rfl ⟨Nat.le_of_ble_eq_true rfl, Nat.le_of_ble_eq_true rfl⟩ hl.1 rfl rfl (Nat.le_of_ble_eq_true rfl) d_M_count_83 (fun H locs hH hS => ?_)
    refine lv_if_eq (tgt := 93) M.x M.b d_M_count_86 (by decide) (fun c12 => ?_) (fun c12 => ?_)
    · replace hf := z_t c12 hf
      refine lv_iconst (v := (0 : Int32)) M.x M.b d_M_count_93 rfl ?_
      exact w_M_count_94 M this h k71 hk71 _ _ _ _ _ _ hf H locs ls hH hS (lv_sub hl [0, 1, 2, 3, 5] rfl)
    · replace hf := z_f c12 hf
      refine lv_iconst (v := (1 : Int32)) M.x M.b d_M_count_89 rfl ?_
      refine lv_goto (tgt := 94) M.x M.b d_M_count_90 (by decide) ?_
      exact w_M_count_94 M this h k71 hk71 _ _ _ _ _ _ hf H locs ls hH hS (lv_sub hl [0, 1, 2, 3, 5] rfl)
def f_M_count_71 (this : Nat) (h : Hp) : Nat → Int32 → Int32 → Int32 → Int32 → Int32 → Option (Int32)
  | 0, _, _, _, _, _ => none
  | n + 1, x1, x2, x3, x4, x5 => t_M_count_71 this h (f_M_count_71 this h n) x1 x2 x3 x4 x5
theorem w_M_count_71 {p : Program} {l : Launch} {e : Env} {s : State} {m : MethodId} {args : Array Value} {below : List Frame} {meth : Method} {c : Code} {N0 : Nat} {D : va_G} {cs : Nat → ClassId} (M : ZC p s m args meth c "YearBasketsModel" "count" b_M_count 6 (some .int) N0 D cs) (this : Nat) (h : Hp)  {r0 : Int32}  : ∀ (n : Nat) (x1 : Int32) (x2 : Int32) (x3 : Int32) (x4 : Int32) (x5 : Int32), f_M_count_71 this h n x1 x2 x3 x4 x5 = some r0 → ZG p l e (zrm 3 0 0) s m args below meth c N0 D cs (some (.int r0)) h h 6 [(0, .ref this), (1, .int x1), (2, .int x2), (3, .int x3), (4, .int x4), (5, .int x5)] 71 [] := by
  intro n
  induction n with
  | zero => intro x1 x2 x3 x4 x5 hf; exact absurd (show none = some _ from hf) (fun q => by cases q)
  | succ n ih => intro x1 x2 x3 x4 x5 hf; exact v_M_count_71 M this h (f_M_count_71 this h n)  ih _ _ _ _ _ hf
def t_M_count_44 (this : Nat) (h : Hp) (k44 : Int32 → Int32 → Int32 → Int32 → Int32 → Option (Int32)) (x1 : Int32) (x2 : Int32) (x3 : Int32) (x4 : Int32) (x5 : Int32) : Option (Int32) :=
  if (5 : Int32) ≤ x5 then
    f_M_count_71 this h FU x1 x2 x3 x4 (0 : Int32)
  else
  (f_M_allGoods this h).bind fun i15 =>
  k44 x1 x2 (x3 + ((i15 >>> (x5 &&& 31)) &&& (1 : Int32))) x4 (x5 + (1 : Int32))
set_option maxRecDepth 100000 in
set_option maxHeartbeats 4000000 in
theorem v_M_count_44 {p : Program} {l : Launch} {e : Env} {s : State} {m : MethodId} {args : Array Value} {below : List Frame} {meth : Method} {c : Code} {N0 : Nat} {D : va_G} {cs : Nat → ClassId} (M : ZC p s m args meth c "YearBasketsModel" "count" b_M_count 6 (some .int) N0 D cs) (this : Nat) (h : Hp) (k44 : Int32 → Int32 → Int32 → Int32 → Int32 → Option (Int32)) {r0 : Int32} (hk44 : ∀ (x1 : Int32) (x2 : Int32) (x3 : Int32) (x4 : Int32) (x5 : Int32), k44 x1 x2 x3 x4 x5 = some r0 → ZG p l e (zrm 3 0 0) s m args below meth c N0 D cs (some (.int r0)) h h 6 [(0, .ref this), (1, .int x1), (2, .int x2), (3, .int x3), (4, .int x4), (5, .int x5)] 44 []) (x1 : Int32) (x2 : Int32) (x3 : Int32) (x4 : Int32) (x5 : Int32) (hf : t_M_count_44 this h k44 x1 x2 x3 x4 x5 = some r0) : ZG p l e (zrm 3 0 0) s m args below meth c N0 D cs (some (.int r0)) h h 6 [(0, .ref this), (1, .int x1), (2, .int x2), (3, .int x3), (4, .int x4), (5, .int x5)] 44 [] := by
  intro H locs ls hH hS hl
  unfold t_M_count_44 at hf
  refine lv_iload M.x M.b d_M_count_44 (lv_at hl 5 rfl) ?_
  refine lv_iconst (v := (5 : Int32)) M.x M.b d_M_count_46 rfl ?_
  refine lv_icmp_ge (tgt := 68) M.x M.b d_M_count_47 (by decide) (fun c16 => ?_) (fun c16 => ?_)
  · replace hf := z_t c16 hf
    refine lv_iconst (v := (0 : Int32)) M.x M.b d_M_count_68 rfl ?_
    refine lv_istore (lv' := [(5, .int (0 : Int32)), (0, .ref this), (1, .int x1), (2, .int x2), (3, .int x3), (4, .int x4)]) M.x M.b d_M_count_69 hl (by decide) rfl (fun ls hl => ?_)
    exact w_M_count_71 M this h FU _ _ _ _ _ hf H locs ls hH hS (lv_sub hl [1, 2, 3, 4, 5, 0] rfl)
  · replace hf := z_f c16 hf
    refine lv_iload_n M.x M.b d_M_count_50 rfl (lv_at hl 3 rfl) ?_
    refine lv_aload_n M.x M.b d_M_count_51 rfl (lv_at hl 0 rfl) ?_
    replace hf := z_bind hf; obtain ⟨i15, e14, hf⟩ := hf
    refine zk_V (ci := 8) (st1 := [.int i15, .int x3]) M hH hS (c_M_allGoods e14) rfl (o_M_allGoods e14) w_M_allGoods q_593 [.int x3] rfl ⟨Nat.le_of_ble_eq_true rfl, Nat.le_of_ble_eq_true rfl⟩ hl.1 rfl rfl (Nat.le_of_ble_eq_true rfl) d_M_count_52 (fun H locs hH hS => ?_)
    refine lv_iload M.x M.b d_M_count_55 (lv_at hl 5 rfl) ?_
    refine lv_ishr M.x M.b d_M_count_57 ?_
    refine lv_iconst (v := (1 : Int32)) M.x M.b d_M_count_58 rfl ?_
    refine lv_iand M.x M.b d_M_count_59 ?_
    refine lv_iadd M.x M.b d_M_count_60 ?_
    refine lv_istore_n (lv' := [(3, .int (x3 + ((i15 >>> (x5 &&& 31)) &&& (1 : Int32)))), (0, .ref this), (1, .int x1), (2, .int x2), (4, .int x4), (5, .int x5)]) M.x M.b d_M_count_61 rfl hl (by decide) rfl (fun ls hl => ?_)
    refine lv_iinc (v := (x5 + (1 : Int32))) (lv' := [(5, .int (x5 + (1 : Int32))), (3, .int (x3 + ((i15 >>> (x5 &&& 31)) &&& (1 : Int32)))), (0, .ref this), (1, .int x1), (2, .int x2), (4, .int x4)]) M.x M.b d_M_count_62 hl (k := 5) rfl rfl (by decide) rfl (fun ls hl => ?_)
    refine lv_goto (tgt := 44) M.x M.b d_M_count_65 (by decide) ?_
    exact hk44 _ _ _ _ _ hf H locs ls hH hS (lv_sub hl [2, 3, 4, 1, 5, 0] rfl)
def f_M_count_44 (this : Nat) (h : Hp) : Nat → Int32 → Int32 → Int32 → Int32 → Int32 → Option (Int32)
  | 0, _, _, _, _, _ => none
  | n + 1, x1, x2, x3, x4, x5 => t_M_count_44 this h (f_M_count_44 this h n) x1 x2 x3 x4 x5
theorem w_M_count_44 {p : Program} {l : Launch} {e : Env} {s : State} {m : MethodId} {args : Array Value} {below : List Frame} {meth : Method} {c : Code} {N0 : Nat} {D : va_G} {cs : Nat → ClassId} (M : ZC p s m args meth c "YearBasketsModel" "count" b_M_count 6 (some .int) N0 D cs) (this : Nat) (h : Hp)  {r0 : Int32}  : ∀ (n : Nat) (x1 : Int32) (x2 : Int32) (x3 : Int32) (x4 : Int32) (x5 : Int32), f_M_count_44 this h n x1 x2 x3 x4 x5 = some r0 → ZG p l e (zrm 3 0 0) s m args below meth c N0 D cs (some (.int r0)) h h 6 [(0, .ref this), (1, .int x1), (2, .int x2), (3, .int x3), (4, .int x4), (5, .int x5)] 44 [] := by
  intro n
  induction n with
  | zero => intro x1 x2 x3 x4 x5 hf; exact absurd (show none = some _ from hf) (fun q => by cases q)
  | succ n ih => intro x1 x2 x3 x4 x5 hf; exact v_M_count_44 M this h (f_M_count_44 this h n)  ih _ _ _ _ _ hf
def f_M_count_33 (this : Nat) (h : Hp) (k10 : Int32 → Int32 → Int32 → Int32 → Int32 → Option (Int32)) (s0 : Int32) (s1 : Int32) (x1 : Int32) (x3 : Int32) (x4 : Int32) (x5 : Int32) : Option (Int32) :=
  k10 x1 (s0 + s1) x3 x4 (x5 + (1 : Int32))
set_option maxRecDepth 100000 in
set_option maxHeartbeats 4000000 in
theorem w_M_count_33 {p : Program} {l : Launch} {e : Env} {s : State} {m : MethodId} {args : Array Value} {below : List Frame} {meth : Method} {c : Code} {N0 : Nat} {D : va_G} {cs : Nat → ClassId} (M : ZC p s m args meth c "YearBasketsModel" "count" b_M_count 6 (some .int) N0 D cs) (this : Nat) (h : Hp) (k10 : Int32 → Int32 → Int32 → Int32 → Int32 → Option (Int32)) {r0 : Int32} (hk10 : ∀ (x1 : Int32) (x2 : Int32) (x3 : Int32) (x4 : Int32) (x5 : Int32), k10 x1 x2 x3 x4 x5 = some r0 → ZG p l e (zrm 3 0 0) s m args below meth c N0 D cs (some (.int r0)) h h 6 [(0, .ref this), (1, .int x1), (2, .int x2), (3, .int x3), (4, .int x4), (5, .int x5)] 10 []) (s0 : Int32) (s1 : Int32) (x1 : Int32) (x3 : Int32) (x4 : Int32) (x5 : Int32) (hf : f_M_count_33 this h k10 s0 s1 x1 x3 x4 x5 = some r0) : ZG p l e (zrm 3 0 0) s m args below meth c N0 D cs (some (.int r0)) h h 6 [(0, .ref this), (1, .int x1), (3, .int x3), (4, .int x4), (5, .int x5)] 33 [.int s1, .int s0] := by
  intro H locs ls hH hS hl
  unfold f_M_count_33 at hf
  refine lv_iadd M.x M.b d_M_count_33 ?_
  refine lv_istore_n (lv' := [(2, .int (s0 + s1)), (0, .ref this), (1, .int x1), (3, .int x3), (4, .int x4), (5, .int x5)]) M.x M.b d_M_count_34 rfl hl (by decide) rfl (fun ls hl => ?_)
  refine lv_iinc (v := (x5 + (1 : Int32))) (lv' := [(5, .int (x5 + (1 : Int32))), (2, .int (s0 + s1)), (0, .ref this), (1, .int x1), (3, .int x3), (4, .int x4)]) M.x M.b d_M_count_35 hl (k := 5) rfl rfl (by decide) rfl (fun ls hl => ?_)
  refine lv_goto (tgt := 10) M.x M.b d_M_count_38 (by decide) ?_
  exact hk10 _ _ _ _ _ hf H locs ls hH hS (lv_sub hl [2, 3, 1, 4, 5, 0] rfl)
def t_M_count_10 (this : Nat) (h : Hp) (k10 : Int32 → Int32 → Int32 → Int32 → Int32 → Option (Int32)) (x1 : Int32) (x2 : Int32) (x3 : Int32) (x4 : Int32) (x5 : Int32) : Option (Int32) :=
  if (50 : Int32) ≤ x5 then
    f_M_count_44 this h FU x1 x2 x3 x4 (0 : Int32)
  else
  (gA h this 8 0).bind fun r17 =>
  (r17).bind fun a19 =>
  (aI h 0 a19 x5).bind fun i22 =>
  if i22 ≤ 0 then
    f_M_count_33 this h k10 x2 (0 : Int32) x1 x3 x4 x5
  else
  f_M_count_33 this h k10 x2 (1 : Int32) x1 x3 x4 x5
set_option maxRecDepth 100000 in
set_option maxHeartbeats 4000000 in
theorem v_M_count_10 {p : Program} {l : Launch} {e : Env} {s : State} {m : MethodId} {args : Array Value} {below : List Frame} {meth : Method} {c : Code} {N0 : Nat} {D : va_G} {cs : Nat → ClassId} (M : ZC p s m args meth c "YearBasketsModel" "count" b_M_count 6 (some .int) N0 D cs) (this : Nat) (h : Hp) (k10 : Int32 → Int32 → Int32 → Int32 → Int32 → Option (Int32)) {r0 : Int32} (hk10 : ∀ (x1 : Int32) (x2 : Int32) (x3 : Int32) (x4 : Int32) (x5 : Int32), k10 x1 x2 x3 x4 x5 = some r0 → ZG p l e (zrm 3 0 0) s m args below meth c N0 D cs (some (.int r0)) h h 6 [(0, .ref this), (1, .int x1), (2, .int x2), (3, .int x3), (4, .int x4), (5, .int x5)] 10 []) (x1 : Int32) (x2 : Int32) (x3 : Int32) (x4 : Int32) (x5 : Int32) (hf : t_M_count_10 this h k10 x1 x2 x3 x4 x5 = some r0) : ZG p l e (zrm 3 0 0) s m args below meth c N0 D cs (some (.int r0)) h h 6 [(0, .ref this), (1, .int x1), (2, .int x2), (3, .int x3), (4, .int x4), (5, .int x5)] 10 [] := by
  intro H locs ls hH hS hl
  unfold t_M_count_10 at hf
  refine lv_iload M.x M.b d_M_count_10 (lv_at hl 5 rfl) ?_
  refine lv_bipush (v := (50 : Int32)) M.x M.b d_M_count_12 rfl ?_
  refine lv_icmp_ge (tgt := 41) M.x M.b d_M_count_14 (by decide) (fun c24 => ?_) (fun c24 => ?_)
  · replace hf := z_t c24 hf
    refine lv_iconst (v := (0 : Int32)) M.x M.b d_M_count_41 rfl ?_
    refine lv_istore (lv' := [(5, .int (0 : Int32)), (0, .ref this), (1, .int x1), (2, .int x2), (3, .int x3), (4, .int x4)]) M.x M.b d_M_count_42 hl (by decide) rfl (fun ls hl => ?_)
    exact w_M_count_44 M this h FU _ _ _ _ _ hf H locs ls hH hS (lv_sub hl [1, 2, 3, 4, 5, 0] rfl)
  · replace hf := z_f c24 hf
    refine lv_iload_n M.x M.b d_M_count_17 rfl (lv_at hl 2 rfl) ?_
    refine lv_aload_n M.x M.b d_M_count_18 rfl (lv_at hl 0 rfl) ?_
    replace hf := z_bind hf; obtain ⟨r17, e18, hf⟩ := hf
    refine z_get (ci := 8) (k := 0) M hH rfl (by decide) zinM q_562 (gA_spec e18) d_M_count_19 ?_
    refine lv_iload M.x M.b d_M_count_22 (lv_at hl 5 rfl) ?_
    rcases r17 with _ | a19
    · exact absurd hf z_nb0
    replace hf := z_sb hf
    replace hf := z_bind hf; obtain ⟨i22, e21, hf⟩ := hf
    refine z_iald M hH e21 d_M_count_24 ?_
    refine lv_if_le (tgt := 32) M.x M.b d_M_count_25 (by decide) (fun c23 => ?_) (fun c23 => ?_)
    · replace hf := z_t c23 hf
      refine lv_iconst (v := (0 : Int32)) M.x M.b d_M_count_32 rfl ?_
      exact w_M_count_33 M this h k10 hk10 _ _ _ _ _ _ hf H locs ls hH hS (lv_sub hl [0, 1, 3, 4, 5] rfl)
    · replace hf := z_f c23 hf
      refine lv_iconst (v := (1 : Int32)) M.x M.b d_M_count_28 rfl ?_
      refine lv_goto (tgt := 33) M.x M.b d_M_count_29 (by decide) ?_
      exact w_M_count_33 M this h k10 hk10 _ _ _ _ _ _ hf H locs ls hH hS (lv_sub hl [0, 1, 3, 4, 5] rfl)
def f_M_count_10 (this : Nat) (h : Hp) : Nat → Int32 → Int32 → Int32 → Int32 → Int32 → Option (Int32)
  | 0, _, _, _, _, _ => none
  | n + 1, x1, x2, x3, x4, x5 => t_M_count_10 this h (f_M_count_10 this h n) x1 x2 x3 x4 x5
theorem w_M_count_10 {p : Program} {l : Launch} {e : Env} {s : State} {m : MethodId} {args : Array Value} {below : List Frame} {meth : Method} {c : Code} {N0 : Nat} {D : va_G} {cs : Nat → ClassId} (M : ZC p s m args meth c "YearBasketsModel" "count" b_M_count 6 (some .int) N0 D cs) (this : Nat) (h : Hp)  {r0 : Int32}  : ∀ (n : Nat) (x1 : Int32) (x2 : Int32) (x3 : Int32) (x4 : Int32) (x5 : Int32), f_M_count_10 this h n x1 x2 x3 x4 x5 = some r0 → ZG p l e (zrm 3 0 0) s m args below meth c N0 D cs (some (.int r0)) h h 6 [(0, .ref this), (1, .int x1), (2, .int x2), (3, .int x3), (4, .int x4), (5, .int x5)] 10 [] := by
  intro n
  induction n with
  | zero => intro x1 x2 x3 x4 x5 hf; exact absurd (show none = some _ from hf) (fun q => by cases q)
  | succ n ih => intro x1 x2 x3 x4 x5 hf; exact v_M_count_10 M this h (f_M_count_10 this h n)  ih _ _ _ _ _ hf
def f_M_count (this : Nat) (h : Hp) (x1 : Int32) : Option (Int32) :=
  if isO h this 8 = true then
  f_M_count_10 this h FU x1 (0 : Int32) (0 : Int32) (0 : Int32) (0 : Int32)
  else none
theorem o_M_count {this : Nat} {h : Hp} {x1 : Int32} {r0 : Int32} (hf : f_M_count this h x1 = some r0) : isO h this 8 = true := by
  unfold f_M_count at hf
  exact (z_gd hf).1
set_option maxRecDepth 100000 in
set_option maxHeartbeats 4000000 in
theorem c_M_count {l : Launch} {N0 : Nat} {D : va_G} {cs : Nat → ClassId} {this : Nat} {h : Hp} {x1 : Int32} {r0 : Int32} (hf : f_M_count this h x1 = some r0) : Fn l N0 D cs y_M_count b_M_count 6 (some .int) 3 0 0 [.ref this, .int x1] h (some (.int r0)) h := by
  refine z_start (by decide) (Nat.le_of_ble_eq_true rfl) ?_
  intro p e s m args below meth c M hH hS ls hl
  unfold f_M_count at hf
  obtain ⟨hO, hf⟩ := z_gd hf
  have hl : lv_has ls 6 [(0, .ref this), (1, .int x1)] := hl
  obtain ⟨H, hHe⟩ : ∃ H, H = s.heap := ⟨_, rfl⟩
  obtain ⟨locs, hLe⟩ : ∃ locs : List Loc, locs = [] := ⟨_, rfl⟩
  have hS : va_S (zA N0) s.heap H locs := by rw [hHe, hLe]; exact hS
  have hH : HH N0 D cs h H := by rw [hHe]; exact hH
  suffices hg : W p l e (zrm 3 0 0) s m args below meth c H locs 0 0 (MQ below (zQ N0 D cs (some (.int r0)) h) args s 0 0 (zA N0)) (F0 m 0 ls []) by rw [hHe, hLe] at hg; exact hg
  clear hHe hLe
  refine lv_iconst (v := (0 : Int32)) M.x M.b d_M_count_0 rfl ?_
  refine lv_istore_n (lv' := [(2, .int (0 : Int32)), (0, .ref this), (1, .int x1)]) M.x M.b d_M_count_1 rfl hl (by decide) rfl (fun ls hl => ?_)
  refine lv_iconst (v := (0 : Int32)) M.x M.b d_M_count_2 rfl ?_
  refine lv_istore_n (lv' := [(3, .int (0 : Int32)), (2, .int (0 : Int32)), (0, .ref this), (1, .int x1)]) M.x M.b d_M_count_3 rfl hl (by decide) rfl (fun ls hl => ?_)
  refine lv_iconst (v := (0 : Int32)) M.x M.b d_M_count_4 rfl ?_
  refine lv_istore (lv' := [(4, .int (0 : Int32)), (3, .int (0 : Int32)), (2, .int (0 : Int32)), (0, .ref this), (1, .int x1)]) M.x M.b d_M_count_5 hl (by decide) rfl (fun ls hl => ?_)
  refine lv_iconst (v := (0 : Int32)) M.x M.b d_M_count_7 rfl ?_
  refine lv_istore (lv' := [(5, .int (0 : Int32)), (4, .int (0 : Int32)), (3, .int (0 : Int32)), (2, .int (0 : Int32)), (0, .ref this), (1, .int x1)]) M.x M.b d_M_count_8 hl (by decide) rfl (fun ls hl => ?_)
  exact w_M_count_10 M this h FU _ _ _ _ _ hf H locs ls hH hS (lv_sub hl [4, 5, 3, 2, 1, 0] rfl)
def t_M_feed_36 (this : Nat) (k36 : Int64 → Int32 → Hp → Option ((Int32 × Hp))) (x2 : Int64) (x4 : Int32) (h : Hp) : Option ((Int32 × Hp)) :=
  if x4 < 0 then
    (gI h this 8 6).bind fun i1 =>
    some (i1, h)
  else
  (gA h this 8 5).bind fun r3 =>
  (gI h this 8 6).bind fun i5 =>
  (r3).bind fun a7 =>
  (sI h a7 i5 (((x2 >>> ((((8 : Int32) * x4)).toInt64 &&& 63)) &&& (255 : Int64))).toInt32).bind fun h10 =>
  (gI h10 this 8 6).bind fun i11 =>
  (pV h10 this 8 6 (.int (i11 + (1 : Int32)))).bind fun h13 =>
  k36 x2 (x4 + (-1 : Int32)) h13
set_option maxRecDepth 100000 in
set_option maxHeartbeats 4000000 in
theorem v_M_feed_36 {p : Program} {l : Launch} {e : Env} {s : State} {m : MethodId} {args : Array Value} {below : List Frame} {meth : Method} {c : Code} {N0 : Nat} {D : va_G} {cs : Nat → ClassId} (M : ZC p s m args meth c "YearBasketsModel" "feed" b_M_feed 5 (some .int) N0 D cs) (this : Nat) (k36 : Int64 → Int32 → Hp → Option ((Int32 × Hp))) {r0 : Int32} {h0 : Hp} (hk36 : ∀ (x2 : Int64) (x4 : Int32) (h : Hp), k36 x2 x4 h = some (r0, h0) → ZG p l e (zrm 2 0 0) s m args below meth c N0 D cs (some (.int r0)) h0 h 5 [(0, .ref this), (2, .long x2), (4, .int x4)] 36 []) (x2 : Int64) (x4 : Int32) (h : Hp) (hf : t_M_feed_36 this k36 x2 x4 h = some (r0, h0)) : ZG p l e (zrm 2 0 0) s m args below meth c N0 D cs (some (.int r0)) h0 h 5 [(0, .ref this), (2, .long x2), (4, .int x4)] 36 [] := by
  intro H locs ls hH hS hl
  unfold t_M_feed_36 at hf
  refine lv_iload M.x M.b d_M_feed_36 (lv_at hl 2 rfl) ?_
  refine lv_if_lt (tgt := 78) M.x M.b d_M_feed_38 (by decide) (fun c15 => ?_) (fun c15 => ?_)
  · replace hf := z_t c15 hf
    refine lv_aload_n M.x M.b d_M_feed_78 rfl (lv_at hl 0 rfl) ?_
    replace hf := z_bind hf; obtain ⟨i1, e2, hf⟩ := hf
    refine z_get (ci := 8) (k := 6) M hH rfl (by decide) zinM q_598 (gI_spec e2) d_M_feed_79 ?_
    obtain ⟨rfl, rfl⟩ := z_r2 hf
    exact z_iret M hH hS d_M_feed_82
  · replace hf := z_f c15 hf
    refine lv_aload_n M.x M.b d_M_feed_41 rfl (lv_at hl 0 rfl) ?_
    replace hf := z_bind hf; obtain ⟨r3, e4, hf⟩ := hf
    refine z_get (ci := 8) (k := 5) M hH rfl (by decide) zinM q_603 (gA_spec e4) d_M_feed_42 ?_
    refine lv_aload_n M.x M.b d_M_feed_45 rfl (lv_at hl 0 rfl) ?_
    replace hf := z_bind hf; obtain ⟨i5, e6, hf⟩ := hf
    refine z_get (ci := 8) (k := 6) M hH rfl (by decide) zinM q_598 (gI_spec e6) d_M_feed_46 ?_
    refine lv_lload_n M.x M.b d_M_feed_49 rfl (lv_at hl 1 rfl) ?_
    refine lv_bipush (v := (8 : Int32)) M.x M.b d_M_feed_50 rfl ?_
    refine lv_iload M.x M.b d_M_feed_52 (lv_at hl 2 rfl) ?_
    refine lv_imul M.x M.b d_M_feed_54 ?_
    refine lv_lshr M.x M.b d_M_feed_55 rfl ?_
    refine z_ldc2 (v := (255 : Int64)) M q_602 d_M_feed_56 ?_
    refine lv_land M.x M.b d_M_feed_59 ?_
    refine lv_l2i M.x M.b d_M_feed_60 rfl ?_
    rcases r3 with _ | a7
    · exact absurd hf z_nb0
    replace hf := z_sb hf
    replace hf := z_bind hf; obtain ⟨h10, e9, hf⟩ := hf
    refine z_iast M hH hS e9 d_M_feed_61 (fun H locs hH hS => ?_)
    refine lv_aload_n M.x M.b d_M_feed_62 rfl (lv_at hl 0 rfl) ?_
    refine lv_dup M.x M.b d_M_feed_63 rfl ?_
    replace hf := z_bind hf; obtain ⟨i11, e12, hf⟩ := hf
    refine z_get (ci := 8) (k := 6) M hH rfl (by decide) zinM q_598 (gI_spec e12) d_M_feed_64 ?_
    refine lv_iconst (v := (1 : Int32)) M.x M.b d_M_feed_67 rfl ?_
    refine lv_iadd M.x M.b d_M_feed_68 ?_
    replace hf := z_bind hf; obtain ⟨h13, e14, hf⟩ := hf
    refine z_put (ci := 8) (k := 6) M hH hS rfl (by decide) zinM zYM zYM_ok zNM_ok rfl q_598 rfl rfl rfl e14 d_M_feed_69 (fun H locs hH hS => ?_)
    refine lv_iinc (v := (x4 + (-1 : Int32))) (lv' := [(4, .int (x4 + (-1 : Int32))), (0, .ref this), (2, .long x2)]) M.x M.b d_M_feed_72 hl (k := 2) rfl rfl (by decide) rfl (fun ls hl => ?_)
    refine lv_goto (tgt := 36) M.x M.b d_M_feed_75 (by decide) ?_
    exact hk36 _ _ _ hf H locs ls hH hS (lv_sub hl [1, 2, 0] rfl)
def f_M_feed_36 (this : Nat) : Nat → Int64 → Int32 → Hp → Option ((Int32 × Hp))
  | 0, _, _, _ => none
  | n + 1, x2, x4, h => t_M_feed_36 this (f_M_feed_36 this n) x2 x4 h
theorem w_M_feed_36 {p : Program} {l : Launch} {e : Env} {s : State} {m : MethodId} {args : Array Value} {below : List Frame} {meth : Method} {c : Code} {N0 : Nat} {D : va_G} {cs : Nat → ClassId} (M : ZC p s m args meth c "YearBasketsModel" "feed" b_M_feed 5 (some .int) N0 D cs) (this : Nat)  {r0 : Int32} {h0 : Hp}  : ∀ (n : Nat) (x2 : Int64) (x4 : Int32) (h : Hp), f_M_feed_36 this n x2 x4 h = some (r0, h0) → ZG p l e (zrm 2 0 0) s m args below meth c N0 D cs (some (.int r0)) h0 h 5 [(0, .ref this), (2, .long x2), (4, .int x4)] 36 [] := by
  intro n
  induction n with
  | zero => intro x2 x4 h hf; exact absurd (show none = some _ from hf) (fun q => by cases q)
  | succ n ih => intro x2 x4 h hf; exact v_M_feed_36 M this (f_M_feed_36 this n)  ih _ _ _ hf
def f_M_feed (this : Nat) (x1 : Int32) (x2 : Int64) (h : Hp) : Option ((Int32 × Hp)) :=
  if isO h this 8 = true then
  (f_M_in (x1).toInt64 (1 : Int64) (8 : Int64)).bind fun i17 =>
  if i17 = 0 then
    some ((-1002 : Int32), h)
  else
  (gI h this 8 6).bind fun i18 =>
  if (i18 + x1) ≤ (60 : Int32) then
    f_M_feed_36 this FU x2 (x1 - (1 : Int32)) h
  else
  some ((-1004 : Int32), h)
  else none
theorem o_M_feed {this : Nat} {x1 : Int32} {x2 : Int64} {h : Hp} {r0 : Int32} {h0 : Hp} (hf : f_M_feed this x1 x2 h = some (r0, h0)) : isO h this 8 = true := by
  unfold f_M_feed at hf
  exact (z_gd hf).1
set_option maxRecDepth 100000 in
set_option maxHeartbeats 4000000 in
theorem c_M_feed {l : Launch} {N0 : Nat} {D : va_G} {cs : Nat → ClassId} {this : Nat} {x1 : Int32} {x2 : Int64} {h : Hp} {r0 : Int32} {h0 : Hp} (hf : f_M_feed this x1 x2 h = some (r0, h0)) : Fn l N0 D cs y_M_feed b_M_feed 5 (some .int) 2 0 0 [.ref this, .int x1, .long x2] h (some (.int r0)) h0 := by
  refine z_start (by decide) (Nat.le_of_ble_eq_true rfl) ?_
  intro p e s m args below meth c M hH hS ls hl
  unfold f_M_feed at hf
  obtain ⟨hO, hf⟩ := z_gd hf
  have hl : lv_has ls 5 [(0, .ref this), (1, .int x1), (2, .long x2)] := hl
  obtain ⟨H, hHe⟩ : ∃ H, H = s.heap := ⟨_, rfl⟩
  obtain ⟨locs, hLe⟩ : ∃ locs : List Loc, locs = [] := ⟨_, rfl⟩
  have hS : va_S (zA N0) s.heap H locs := by rw [hHe, hLe]; exact hS
  have hH : HH N0 D cs h H := by rw [hHe]; exact hH
  suffices hg : W p l e (zrm 2 0 0) s m args below meth c H locs 0 0 (MQ below (zQ N0 D cs (some (.int r0)) h0) args s 0 0 (zA N0)) (F0 m 0 ls []) by rw [hHe, hLe] at hg; exact hg
  clear hHe hLe
  refine lv_iload_n M.x M.b d_M_feed_0 rfl (lv_at hl 1 rfl) ?_
  refine lv_i2l M.x M.b d_M_feed_1 rfl ?_
  refine lv_lconst (v := (1 : Int64)) M.x M.b d_M_feed_2 rfl ?_
  refine z_ldc2 (v := (8 : Int64)) M q_604 d_M_feed_3 ?_
  replace hf := z_bind hf; obtain ⟨i17, e16, hf⟩ := hf
  refine zk_S (st1 := [.int i17]) M hH hS (c_M_in e16) w_M_in q_551 [] rfl ⟨Nat.le_of_ble_eq_true rfl, Nat.le_of_ble_eq_true rfl⟩ hl.1 rfl rfl (Nat.le_of_ble_eq_true rfl) d_M_feed_6 (fun H locs hH hS => ?_)
  refine lv_if_ne (tgt := 16) M.x M.b d_M_feed_9 (by decide) (fun c21 => ?_) (fun c21 => ?_)
  · replace hf := z_f c21 hf
    refine lv_aload_n M.x M.b d_M_feed_16 rfl (lv_at hl 0 rfl) ?_
    replace hf := z_bind hf; obtain ⟨i18, e19, hf⟩ := hf
    refine z_get (ci := 8) (k := 6) M hH rfl (by decide) zinM q_598 (gI_spec e19) d_M_feed_17 ?_
    refine lv_iload_n M.x M.b d_M_feed_20 rfl (lv_at hl 1 rfl) ?_
    refine lv_iadd M.x M.b d_M_feed_21 ?_
    refine lv_bipush (v := (60 : Int32)) M.x M.b d_M_feed_22 rfl ?_
    refine lv_icmp_le (tgt := 31) M.x M.b d_M_feed_24 (by decide) (fun c20 => ?_) (fun c20 => ?_)
    · replace hf := z_t c20 hf
      refine lv_iload_n M.x M.b d_M_feed_31 rfl (lv_at hl 1 rfl) ?_
      refine lv_iconst (v := (1 : Int32)) M.x M.b d_M_feed_32 rfl ?_
      refine lv_isub M.x M.b d_M_feed_33 ?_
      refine lv_istore (lv' := [(4, .int (x1 - (1 : Int32))), (0, .ref this), (1, .int x1), (2, .long x2)]) M.x M.b d_M_feed_34 hl (by decide) rfl (fun ls hl => ?_)
      exact w_M_feed_36 M this FU _ _ _ hf H locs ls hH hS (lv_sub hl [1, 3, 0] rfl)
    · replace hf := z_f c20 hf
      refine lv_sipush (v := (-1004 : Int32)) M.x M.b d_M_feed_27 rfl ?_
      obtain ⟨rfl, rfl⟩ := z_r2 hf
      exact z_iret M hH hS d_M_feed_30
  · replace hf := z_t c21 hf
    refine lv_sipush (v := (-1002 : Int32)) M.x M.b d_M_feed_12 rfl ?_
    obtain ⟨rfl, rfl⟩ := z_r2 hf
    exact z_iret M hH hS d_M_feed_15
def f_M_here_38 (this : Nat) (h : Hp) : Option ((Int32 × Hp)) :=
  (gI h this 8 8).bind fun i1 =>
  (gI h this 8 6).bind fun i3 =>
  if i3 ≤ i1 then
    some ((-1 : Int32), h)
  else
  (gA h this 8 5).bind fun r5 =>
  (gI h this 8 8).bind fun i7 =>
  (r5).bind fun a9 =>
  (aI h 0 a9 i7).bind fun i12 =>
  some (i12, h)
set_option maxRecDepth 100000 in
set_option maxHeartbeats 4000000 in
theorem w_M_here_38 {p : Program} {l : Launch} {e : Env} {s : State} {m : MethodId} {args : Array Value} {below : List Frame} {meth : Method} {c : Code} {N0 : Nat} {D : va_G} {cs : Nat → ClassId} (M : ZC p s m args meth c "YearBasketsModel" "here" b_M_here 1 (some .int) N0 D cs) (this : Nat)  {r0 : Int32} {h0 : Hp}  (h : Hp) (hf : f_M_here_38 this h = some (r0, h0)) : ZG p l e (zrm 1 0 0) s m args below meth c N0 D cs (some (.int r0)) h0 h 1 [(0, .ref this)] 38 [] := by
  intro H locs ls hH hS hl
  unfold f_M_here_38 at hf
  refine lv_aload_n M.x M.b d_M_here_38 rfl (lv_at hl 0 rfl) ?_
  replace hf := z_bind hf; obtain ⟨i1, e2, hf⟩ := hf
  refine z_get (ci := 8) (k := 8) M hH rfl (by decide) zinM q_608 (gI_spec e2) d_M_here_39 ?_
  refine lv_aload_n M.x M.b d_M_here_42 rfl (lv_at hl 0 rfl) ?_
  replace hf := z_bind hf; obtain ⟨i3, e4, hf⟩ := hf
  refine z_get (ci := 8) (k := 6) M hH rfl (by decide) zinM q_598 (gI_spec e4) d_M_here_43 ?_
  refine lv_icmp_ge (tgt := 61) M.x M.b d_M_here_46 (by decide) (fun c13 => ?_) (fun c13 => ?_)
  · replace hf := z_t c13 hf
    refine lv_iconst (v := (-1 : Int32)) M.x M.b d_M_here_61 rfl ?_
    obtain ⟨rfl, rfl⟩ := z_r2 hf
    exact z_iret M hH hS d_M_here_62
  · replace hf := z_f c13 hf
    refine lv_aload_n M.x M.b d_M_here_49 rfl (lv_at hl 0 rfl) ?_
    replace hf := z_bind hf; obtain ⟨r5, e6, hf⟩ := hf
    refine z_get (ci := 8) (k := 5) M hH rfl (by decide) zinM q_603 (gA_spec e6) d_M_here_50 ?_
    refine lv_aload_n M.x M.b d_M_here_53 rfl (lv_at hl 0 rfl) ?_
    replace hf := z_bind hf; obtain ⟨i7, e8, hf⟩ := hf
    refine z_get (ci := 8) (k := 8) M hH rfl (by decide) zinM q_608 (gI_spec e8) d_M_here_54 ?_
    rcases r5 with _ | a9
    · exact absurd hf z_nb0
    replace hf := z_sb hf
    replace hf := z_bind hf; obtain ⟨i12, e11, hf⟩ := hf
    refine z_iald M hH e11 d_M_here_57 ?_
    refine lv_goto (tgt := 62) M.x M.b d_M_here_58 (by decide) ?_
    obtain ⟨rfl, rfl⟩ := z_r2 hf
    exact z_iret M hH hS d_M_here_62
def t_M_here_0 (this : Nat) (k0 : Hp → Option ((Int32 × Hp))) (h : Hp) : Option ((Int32 × Hp)) :=
  (gI h this 8 8).bind fun i14 =>
  (gI h this 8 6).bind fun i16 =>
  if i16 ≤ i14 then
    f_M_here_38 this h
  else
  (gA h this 8 5).bind fun r18 =>
  (gI h this 8 8).bind fun i20 =>
  (r18).bind fun a22 =>
  (aI h 0 a22 i20).bind fun i25 =>
  if i25 = (32 : Int32) then
    (gI h this 8 8).bind fun i26 =>
    (pV h this 8 8 (.int (i26 + (1 : Int32)))).bind fun h28 =>
    k0 h28
  else
  f_M_here_38 this h
set_option maxRecDepth 100000 in
set_option maxHeartbeats 4000000 in
theorem v_M_here_0 {p : Program} {l : Launch} {e : Env} {s : State} {m : MethodId} {args : Array Value} {below : List Frame} {meth : Method} {c : Code} {N0 : Nat} {D : va_G} {cs : Nat → ClassId} (M : ZC p s m args meth c "YearBasketsModel" "here" b_M_here 1 (some .int) N0 D cs) (this : Nat) (k0 : Hp → Option ((Int32 × Hp))) {r0 : Int32} {h0 : Hp} (hk0 : ∀  (h : Hp), k0 h = some (r0, h0) → ZG p l e (zrm 1 0 0) s m args below meth c N0 D cs (some (.int r0)) h0 h 1 [(0, .ref this)] 0 []) (h : Hp) (hf : t_M_here_0 this k0 h = some (r0, h0)) : ZG p l e (zrm 1 0 0) s m args below meth c N0 D cs (some (.int r0)) h0 h 1 [(0, .ref this)] 0 [] := by
  intro H locs ls hH hS hl
  unfold t_M_here_0 at hf
  refine lv_aload_n M.x M.b d_M_here_0 rfl (lv_at hl 0 rfl) ?_
  replace hf := z_bind hf; obtain ⟨i14, e15, hf⟩ := hf
  refine z_get (ci := 8) (k := 8) M hH rfl (by decide) zinM q_608 (gI_spec e15) d_M_here_1 ?_
  refine lv_aload_n M.x M.b d_M_here_4 rfl (lv_at hl 0 rfl) ?_
  replace hf := z_bind hf; obtain ⟨i16, e17, hf⟩ := hf
  refine z_get (ci := 8) (k := 6) M hH rfl (by decide) zinM q_598 (gI_spec e17) d_M_here_5 ?_
  refine lv_icmp_ge (tgt := 38) M.x M.b d_M_here_8 (by decide) (fun c31 => ?_) (fun c31 => ?_)
  · replace hf := z_t c31 hf
    exact w_M_here_38 M this _ hf H locs ls hH hS (lv_sub hl [0] rfl)
  · replace hf := z_f c31 hf
    refine lv_aload_n M.x M.b d_M_here_11 rfl (lv_at hl 0 rfl) ?_
    replace hf := z_bind hf; obtain ⟨r18, e19, hf⟩ := hf
    refine z_get (ci := 8) (k := 5) M hH rfl (by decide) zinM q_603 (gA_spec e19) d_M_here_12 ?_
    refine lv_aload_n M.x M.b d_M_here_15 rfl (lv_at hl 0 rfl) ?_
    replace hf := z_bind hf; obtain ⟨i20, e21, hf⟩ := hf
    refine z_get (ci := 8) (k := 8) M hH rfl (by decide) zinM q_608 (gI_spec e21) d_M_here_16 ?_
    rcases r18 with _ | a22
    · exact absurd hf z_nb0
    replace hf := z_sb hf
    replace hf := z_bind hf; obtain ⟨i25, e24, hf⟩ := hf
    refine z_iald M hH e24 d_M_here_19 ?_
    refine lv_bipush (v := (32 : Int32)) M.x M.b d_M_here_20 rfl ?_
    refine lv_icmp_ne (tgt := 38) M.x M.b d_M_here_22 (by decide) (fun c30 => ?_) (fun c30 => ?_)
    · replace hf := z_f c30 hf
      exact w_M_here_38 M this _ hf H locs ls hH hS (lv_sub hl [0] rfl)
    · replace hf := z_t c30 hf
      refine lv_aload_n M.x M.b d_M_here_25 rfl (lv_at hl 0 rfl) ?_
      refine lv_dup M.x M.b d_M_here_26 rfl ?_
      replace hf := z_bind hf; obtain ⟨i26, e27, hf⟩ := hf
      refine z_get (ci := 8) (k := 8) M hH rfl (by decide) zinM q_608 (gI_spec e27) d_M_here_27 ?_
      refine lv_iconst (v := (1 : Int32)) M.x M.b d_M_here_30 rfl ?_
      refine lv_iadd M.x M.b d_M_here_31 ?_
      replace hf := z_bind hf; obtain ⟨h28, e29, hf⟩ := hf
      refine z_put (ci := 8) (k := 8) M hH hS rfl (by decide) zinM zYM zYM_ok zNM_ok rfl q_608 rfl rfl rfl e29 d_M_here_32 (fun H locs hH hS => ?_)
      refine lv_goto (tgt := 0) M.x M.b d_M_here_35 (by decide) ?_
      exact hk0 _ hf H locs ls hH hS (lv_sub hl [0] rfl)
def f_M_here_0 (this : Nat) : Nat → Hp → Option ((Int32 × Hp))
  | 0, _ => none
  | n + 1, h => t_M_here_0 this (f_M_here_0 this n) h
theorem w_M_here_0 {p : Program} {l : Launch} {e : Env} {s : State} {m : MethodId} {args : Array Value} {below : List Frame} {meth : Method} {c : Code} {N0 : Nat} {D : va_G} {cs : Nat → ClassId} (M : ZC p s m args meth c "YearBasketsModel" "here" b_M_here 1 (some .int) N0 D cs) (this : Nat)  {r0 : Int32} {h0 : Hp}  : ∀ (n : Nat) (h : Hp), f_M_here_0 this n h = some (r0, h0) → ZG p l e (zrm 1 0 0) s m args below meth c N0 D cs (some (.int r0)) h0 h 1 [(0, .ref this)] 0 [] := by
  intro n
  induction n with
  | zero => intro h hf; exact absurd (show none = some _ from hf) (fun q => by cases q)
  | succ n ih => intro h hf; exact v_M_here_0 M this (f_M_here_0 this n)  ih _ hf
def f_M_here (this : Nat) (h : Hp) : Option ((Int32 × Hp)) :=
  if isO h this 8 = true then
  f_M_here_0 this FU h
  else none
theorem o_M_here {this : Nat} {h : Hp} {r0 : Int32} {h0 : Hp} (hf : f_M_here this h = some (r0, h0)) : isO h this 8 = true := by
  unfold f_M_here at hf
  exact (z_gd hf).1
set_option maxRecDepth 100000 in
set_option maxHeartbeats 4000000 in
theorem c_M_here {l : Launch} {N0 : Nat} {D : va_G} {cs : Nat → ClassId} {this : Nat} {h : Hp} {r0 : Int32} {h0 : Hp} (hf : f_M_here this h = some (r0, h0)) : Fn l N0 D cs y_M_here b_M_here 1 (some .int) 1 0 0 [.ref this] h (some (.int r0)) h0 := by
  refine z_start (by decide) (Nat.le_of_ble_eq_true rfl) ?_
  intro p e s m args below meth c M hH hS ls hl
  unfold f_M_here at hf
  obtain ⟨hO, hf⟩ := z_gd hf
  have hl : lv_has ls 1 [(0, .ref this)] := hl
  obtain ⟨H, hHe⟩ : ∃ H, H = s.heap := ⟨_, rfl⟩
  obtain ⟨locs, hLe⟩ : ∃ locs : List Loc, locs = [] := ⟨_, rfl⟩
  have hS : va_S (zA N0) s.heap H locs := by rw [hHe, hLe]; exact hS
  have hH : HH N0 D cs h H := by rw [hHe]; exact hH
  suffices hg : W p l e (zrm 1 0 0) s m args below meth c H locs 0 0 (MQ below (zQ N0 D cs (some (.int r0)) h0) args s 0 0 (zA N0)) (F0 m 0 ls []) by rw [hHe, hLe] at hg; exact hg
  clear hHe hLe
  exact w_M_here_0 M this FU _ hf H locs ls hH hS (lv_sub hl [0] rfl)
def f_M_fails (this : Nat) (x1 : Int32) (x2 : Int32) (h : Hp) : Option ((Int32 × Hp)) :=
  if isO h this 8 = true then
  (pV h this 8 7 (.int x2)).bind fun h1 =>
  some (x1, h1)
  else none
theorem o_M_fails {this : Nat} {x1 : Int32} {x2 : Int32} {h : Hp} {r0 : Int32} {h0 : Hp} (hf : f_M_fails this x1 x2 h = some (r0, h0)) : isO h this 8 = true := by
  unfold f_M_fails at hf
  exact (z_gd hf).1
set_option maxRecDepth 100000 in
set_option maxHeartbeats 4000000 in
theorem c_M_fails {l : Launch} {N0 : Nat} {D : va_G} {cs : Nat → ClassId} {this : Nat} {x1 : Int32} {x2 : Int32} {h : Hp} {r0 : Int32} {h0 : Hp} (hf : f_M_fails this x1 x2 h = some (r0, h0)) : Fn l N0 D cs y_M_fails b_M_fails 3 (some .int) 1 0 0 [.ref this, .int x1, .int x2] h (some (.int r0)) h0 := by
  refine z_start (by decide) (Nat.le_of_ble_eq_true rfl) ?_
  intro p e s m args below meth c M hH hS ls hl
  unfold f_M_fails at hf
  obtain ⟨hO, hf⟩ := z_gd hf
  have hl : lv_has ls 3 [(0, .ref this), (1, .int x1), (2, .int x2)] := hl
  obtain ⟨H, hHe⟩ : ∃ H, H = s.heap := ⟨_, rfl⟩
  obtain ⟨locs, hLe⟩ : ∃ locs : List Loc, locs = [] := ⟨_, rfl⟩
  have hS : va_S (zA N0) s.heap H locs := by rw [hHe, hLe]; exact hS
  have hH : HH N0 D cs h H := by rw [hHe]; exact hH
  suffices hg : W p l e (zrm 1 0 0) s m args below meth c H locs 0 0 (MQ below (zQ N0 D cs (some (.int r0)) h0) args s 0 0 (zA N0)) (F0 m 0 ls []) by rw [hHe, hLe] at hg; exact hg
  clear hHe hLe
  refine lv_aload_n M.x M.b d_M_fails_0 rfl (lv_at hl 0 rfl) ?_
  refine lv_iload_n M.x M.b d_M_fails_1 rfl (lv_at hl 2 rfl) ?_
  replace hf := z_bind hf; obtain ⟨h1, e2, hf⟩ := hf
  refine z_put (ci := 8) (k := 7) M hH hS rfl (by decide) zinM zYM zYM_ok zNM_ok rfl q_612 rfl rfl rfl e2 d_M_fails_2 (fun H locs hH hS => ?_)
  refine lv_iload_n M.x M.b d_M_fails_5 rfl (lv_at hl 1 rfl) ?_
  obtain ⟨rfl, rfl⟩ := z_r2 hf
  exact z_iret M hH hS d_M_fails_6
def f_M_sign (this : Nat) (x1 : Int32) (h : Hp) : Option ((Int32 × Hp)) :=
  if isO h this 8 = true then
  zb2 (f_M_here this h) fun i2 h3 =>
  if i2 = x1 then
    (gI h3 this 8 8).bind fun i4 =>
    (pV h3 this 8 8 (.int (i4 + (1 : Int32)))).bind fun h6 =>
    some ((0 : Int32), h6)
  else
  (gI h3 this 8 8).bind fun i8 =>
  zb2 (f_M_fails this (1 : Int32) i8 h3) fun i11 h12 =>
  some (i11, h12)
  else none
theorem o_M_sign {this : Nat} {x1 : Int32} {h : Hp} {r0 : Int32} {h0 : Hp} (hf : f_M_sign this x1 h = some (r0, h0)) : isO h this 8 = true := by
  unfold f_M_sign at hf
  exact (z_gd hf).1
set_option maxRecDepth 100000 in
set_option maxHeartbeats 4000000 in
theorem c_M_sign {l : Launch} {N0 : Nat} {D : va_G} {cs : Nat → ClassId} {this : Nat} {x1 : Int32} {h : Hp} {r0 : Int32} {h0 : Hp} (hf : f_M_sign this x1 h = some (r0, h0)) : Fn l N0 D cs y_M_sign b_M_sign 2 (some .int) 2 0 0 [.ref this, .int x1] h (some (.int r0)) h0 := by
  refine z_start (by decide) (Nat.le_of_ble_eq_true rfl) ?_
  intro p e s m args below meth c M hH hS ls hl
  unfold f_M_sign at hf
  obtain ⟨hO, hf⟩ := z_gd hf
  have hl : lv_has ls 2 [(0, .ref this), (1, .int x1)] := hl
  obtain ⟨H, hHe⟩ : ∃ H, H = s.heap := ⟨_, rfl⟩
  obtain ⟨locs, hLe⟩ : ∃ locs : List Loc, locs = [] := ⟨_, rfl⟩
  have hS : va_S (zA N0) s.heap H locs := by rw [hHe, hLe]; exact hS
  have hH : HH N0 D cs h H := by rw [hHe]; exact hH
  suffices hg : W p l e (zrm 2 0 0) s m args below meth c H locs 0 0 (MQ below (zQ N0 D cs (some (.int r0)) h0) args s 0 0 (zA N0)) (F0 m 0 ls []) by rw [hHe, hLe] at hg; exact hg
  clear hHe hLe
  refine lv_aload_n M.x M.b d_M_sign_0 rfl (lv_at hl 0 rfl) ?_
  replace hf := z_bind2 hf; obtain ⟨i2, h3, e1, hf⟩ := hf
  refine zk_V (ci := 8) (st1 := [.int i2]) M hH hS (c_M_here e1) rfl (o_M_here e1) w_M_here q_617 [] rfl ⟨Nat.le_of_ble_eq_true rfl, Nat.le_of_ble_eq_true rfl⟩ hl.1 rfl rfl (Nat.le_of_ble_eq_true rfl) d_M_sign_1 (fun H locs hH hS => ?_)
  refine lv_iload_n M.x M.b d_M_sign_4 rfl (lv_at hl 1 rfl) ?_
  refine lv_icmp_eq (tgt := 18) M.x M.b d_M_sign_5 (by decide) (fun c13 => ?_) (fun c13 => ?_)
  · replace hf := z_t c13 hf
    refine lv_aload_n M.x M.b d_M_sign_18 rfl (lv_at hl 0 rfl) ?_
    refine lv_dup M.x M.b d_M_sign_19 rfl ?_
    replace hf := z_bind hf; obtain ⟨i4, e5, hf⟩ := hf
    refine z_get (ci := 8) (k := 8) M hH rfl (by decide) zinM q_608 (gI_spec e5) d_M_sign_20 ?_
    refine lv_iconst (v := (1 : Int32)) M.x M.b d_M_sign_23 rfl ?_
    refine lv_iadd M.x M.b d_M_sign_24 ?_
    replace hf := z_bind hf; obtain ⟨h6, e7, hf⟩ := hf
    refine z_put (ci := 8) (k := 8) M hH hS rfl (by decide) zinM zYM zYM_ok zNM_ok rfl q_608 rfl rfl rfl e7 d_M_sign_25 (fun H locs hH hS => ?_)
    refine lv_iconst (v := (0 : Int32)) M.x M.b d_M_sign_28 rfl ?_
    obtain ⟨rfl, rfl⟩ := z_r2 hf
    exact z_iret M hH hS d_M_sign_29
  · replace hf := z_f c13 hf
    refine lv_aload_n M.x M.b d_M_sign_8 rfl (lv_at hl 0 rfl) ?_
    refine lv_iconst (v := (1 : Int32)) M.x M.b d_M_sign_9 rfl ?_
    refine lv_aload_n M.x M.b d_M_sign_10 rfl (lv_at hl 0 rfl) ?_
    replace hf := z_bind hf; obtain ⟨i8, e9, hf⟩ := hf
    refine z_get (ci := 8) (k := 8) M hH rfl (by decide) zinM q_608 (gI_spec e9) d_M_sign_11 ?_
    replace hf := z_bind2 hf; obtain ⟨i11, h12, e10, hf⟩ := hf
    refine zk_V (ci := 8) (st1 := [.int i11]) M hH hS (c_M_fails e10) rfl (o_M_fails e10) w_M_fails q_616 [] rfl ⟨Nat.le_of_ble_eq_true rfl, Nat.le_of_ble_eq_true rfl⟩ hl.1 rfl rfl (Nat.le_of_ble_eq_true rfl) d_M_sign_14 (fun H locs hH hS => ?_)
    obtain ⟨rfl, rfl⟩ := z_r2 hf
    exact z_iret M hH hS d_M_sign_17
def f_M_code_65 (s0 : Int64) (x4 : Int32) : Option (Int64) :=
  if x4 = 0 then
    some s0
  else
  some ((((27 : Int64) * s0) + (x4).toInt64) - (96 : Int64))
set_option maxRecDepth 100000 in
set_option maxHeartbeats 4000000 in
theorem w_M_code_65 {p : Program} {l : Launch} {e : Env} {s : State} {m : MethodId} {args : Array Value} {below : List Frame} {meth : Method} {c : Code} {N0 : Nat} {D : va_G} {cs : Nat → ClassId} (M : ZC p s m args meth c "YearBasketsModel" "code" b_M_code 7 (some .long) N0 D cs)  {h : Hp}  {r0 : Int64}  (s0 : Int64) (x4 : Int32) (hf : f_M_code_65 s0 x4 = some r0) : ZG p l e (zrm 1 0 0) s m args below meth c N0 D cs (some (.long r0)) h h 7 [(4, .int x4)] 65 [.long s0] := by
  intro H locs ls hH hS hl
  unfold f_M_code_65 at hf
  refine lv_lstore (lv' := [(5, .long s0), (4, .int x4)]) M.x M.b d_M_code_65 hl (by decide) rfl (fun ls hl => ?_)
  refine lv_iload M.x M.b d_M_code_67 (lv_at hl 1 rfl) ?_
  refine lv_if_ne (tgt := 77) M.x M.b d_M_code_69 (by decide) (fun c1 => ?_) (fun c1 => ?_)
  · replace hf := z_f c1 hf
    refine z_ldc2 (v := (27 : Int64)) M q_620 d_M_code_77 ?_
    refine lv_lload M.x M.b d_M_code_80 (lv_at hl 0 rfl) ?_
    refine lv_lmul M.x M.b d_M_code_82 ?_
    refine lv_iload M.x M.b d_M_code_83 (lv_at hl 1 rfl) ?_
    refine lv_i2l M.x M.b d_M_code_85 rfl ?_
    refine lv_ladd M.x M.b d_M_code_86 ?_
    refine z_ldc2 (v := (96 : Int64)) M q_621 d_M_code_87 ?_
    refine lv_lsub M.x M.b d_M_code_90 ?_
    obtain rfl := z_r1 hf
    exact z_lret M hH hS d_M_code_91
  · replace hf := z_t c1 hf
    refine lv_lload M.x M.b d_M_code_72 (lv_at hl 0 rfl) ?_
    refine lv_goto (tgt := 91) M.x M.b d_M_code_74 (by decide) ?_
    obtain rfl := z_r1 hf
    exact z_lret M hH hS d_M_code_91
def f_M_code_41 (s0 : Int64) (x3 : Int32) (x4 : Int32) : Option (Int64) :=
  if x3 = 0 then
    f_M_code_65  s0 x4
  else
  f_M_code_65  ((((27 : Int64) * s0) + (x3).toInt64) - (96 : Int64)) x4
set_option maxRecDepth 100000 in
set_option maxHeartbeats 4000000 in
theorem w_M_code_41 {p : Program} {l : Launch} {e : Env} {s : State} {m : MethodId} {args : Array Value} {below : List Frame} {meth : Method} {c : Code} {N0 : Nat} {D : va_G} {cs : Nat → ClassId} (M : ZC p s m args meth c "YearBasketsModel" "code" b_M_code 7 (some .long) N0 D cs)  {h : Hp}  {r0 : Int64}  (s0 : Int64) (x3 : Int32) (x4 : Int32) (hf : f_M_code_41 s0 x3 x4 = some r0) : ZG p l e (zrm 1 0 0) s m args below meth c N0 D cs (some (.long r0)) h h 7 [(3, .int x3), (4, .int x4)] 41 [.long s0] := by
  intro H locs ls hH hS hl
  unfold f_M_code_41 at hf
  refine lv_lstore (lv' := [(5, .long s0), (3, .int x3), (4, .int x4)]) M.x M.b d_M_code_41 hl (by decide) rfl (fun ls hl => ?_)
  refine lv_iload_n M.x M.b d_M_code_43 rfl (lv_at hl 1 rfl) ?_
  refine lv_if_ne (tgt := 52) M.x M.b d_M_code_44 (by decide) (fun c2 => ?_) (fun c2 => ?_)
  · replace hf := z_f c2 hf
    refine z_ldc2 (v := (27 : Int64)) M q_620 d_M_code_52 ?_
    refine lv_lload M.x M.b d_M_code_55 (lv_at hl 0 rfl) ?_
    refine lv_lmul M.x M.b d_M_code_57 ?_
    refine lv_iload_n M.x M.b d_M_code_58 rfl (lv_at hl 1 rfl) ?_
    refine lv_i2l M.x M.b d_M_code_59 rfl ?_
    refine lv_ladd M.x M.b d_M_code_60 ?_
    refine z_ldc2 (v := (96 : Int64)) M q_621 d_M_code_61 ?_
    refine lv_lsub M.x M.b d_M_code_64 ?_
    exact w_M_code_65 M  _ _ hf H locs ls hH hS (lv_sub hl [2] rfl)
  · replace hf := z_t c2 hf
    refine lv_lload M.x M.b d_M_code_47 (lv_at hl 0 rfl) ?_
    refine lv_goto (tgt := 65) M.x M.b d_M_code_49 (by decide) ?_
    exact w_M_code_65 M  _ _ hf H locs ls hH hS (lv_sub hl [2] rfl)
def f_M_code (x0 : Int32) (x1 : Int32) (x2 : Int32) (x3 : Int32) (x4 : Int32) : Option (Int64) :=
  if x2 = 0 then
    f_M_code_41  ((((27 : Int64) * ((x0).toInt64 - (96 : Int64))) + (x1).toInt64) - (96 : Int64)) x3 x4
  else
  f_M_code_41  ((((27 : Int64) * ((((27 : Int64) * ((x0).toInt64 - (96 : Int64))) + (x1).toInt64) - (96 : Int64))) + (x2).toInt64) - (96 : Int64)) x3 x4
set_option maxRecDepth 100000 in
set_option maxHeartbeats 4000000 in
theorem c_M_code {l : Launch} {N0 : Nat} {D : va_G} {cs : Nat → ClassId} {x0 : Int32} {x1 : Int32} {x2 : Int32} {x3 : Int32} {x4 : Int32} {r0 : Int64} {h : Hp} (hf : f_M_code x0 x1 x2 x3 x4 = some r0) : Fn l N0 D cs y_M_code b_M_code 7 (some .long) 1 0 0 [.int x0, .int x1, .int x2, .int x3, .int x4] h (some (.long r0)) h := by
  refine z_start (by decide) (Nat.le_of_ble_eq_true rfl) ?_
  intro p e s m args below meth c M hH hS ls hl
  unfold f_M_code at hf
  have hl : lv_has ls 7 [(0, .int x0), (1, .int x1), (2, .int x2), (3, .int x3), (4, .int x4)] := hl
  obtain ⟨H, hHe⟩ : ∃ H, H = s.heap := ⟨_, rfl⟩
  obtain ⟨locs, hLe⟩ : ∃ locs : List Loc, locs = [] := ⟨_, rfl⟩
  have hS : va_S (zA N0) s.heap H locs := by rw [hHe, hLe]; exact hS
  have hH : HH N0 D cs h H := by rw [hHe]; exact hH
  suffices hg : W p l e (zrm 1 0 0) s m args below meth c H locs 0 0 (MQ below (zQ N0 D cs (some (.long r0)) h) args s 0 0 (zA N0)) (F0 m 0 ls []) by rw [hHe, hLe] at hg; exact hg
  clear hHe hLe
  refine z_ldc2 (v := (27 : Int64)) M q_620 d_M_code_0 ?_
  refine lv_iload_n M.x M.b d_M_code_3 rfl (lv_at hl 0 rfl) ?_
  refine lv_i2l M.x M.b d_M_code_4 rfl ?_
  refine z_ldc2 (v := (96 : Int64)) M q_621 d_M_code_5 ?_
  refine lv_lsub M.x M.b d_M_code_8 ?_
  refine lv_lmul M.x M.b d_M_code_9 ?_
  refine lv_iload_n M.x M.b d_M_code_10 rfl (lv_at hl 1 rfl) ?_
  refine lv_i2l M.x M.b d_M_code_11 rfl ?_
  refine lv_ladd M.x M.b d_M_code_12 ?_
  refine z_ldc2 (v := (96 : Int64)) M q_621 d_M_code_13 ?_
  refine lv_lsub M.x M.b d_M_code_16 ?_
  refine lv_lstore (lv' := [(5, .long ((((27 : Int64) * ((x0).toInt64 - (96 : Int64))) + (x1).toInt64) - (96 : Int64))), (0, .int x0), (1, .int x1), (2, .int x2), (3, .int x3), (4, .int x4)]) M.x M.b d_M_code_17 hl (by decide) rfl (fun ls hl => ?_)
  refine lv_iload_n M.x M.b d_M_code_19 rfl (lv_at hl 3 rfl) ?_
  refine lv_if_ne (tgt := 28) M.x M.b d_M_code_20 (by decide) (fun c3 => ?_) (fun c3 => ?_)
  · replace hf := z_f c3 hf
    refine z_ldc2 (v := (27 : Int64)) M q_620 d_M_code_28 ?_
    refine lv_lload M.x M.b d_M_code_31 (lv_at hl 0 rfl) ?_
    refine lv_lmul M.x M.b d_M_code_33 ?_
    refine lv_iload_n M.x M.b d_M_code_34 rfl (lv_at hl 3 rfl) ?_
    refine lv_i2l M.x M.b d_M_code_35 rfl ?_
    refine lv_ladd M.x M.b d_M_code_36 ?_
    refine z_ldc2 (v := (96 : Int64)) M q_621 d_M_code_37 ?_
    refine lv_lsub M.x M.b d_M_code_40 ?_
    exact w_M_code_41 M  _ _ _ hf H locs ls hH hS (lv_sub hl [4, 5] rfl)
  · replace hf := z_t c3 hf
    refine lv_lload M.x M.b d_M_code_23 (lv_at hl 0 rfl) ?_
    refine lv_goto (tgt := 41) M.x M.b d_M_code_25 (by decide) ?_
    exact w_M_code_41 M  _ _ _ hf H locs ls hH hS (lv_sub hl [4, 5] rfl)
def f_M_readKind_380 (this : Nat) (s0 : Int32) (x4 : Int32) (x5 : Int32) (h : Hp) : Option ((Int32 × Hp)) :=
  if x4 < 0 then
    if x5 < 0 then
      some (s0, h)
    else
    some (x5, h)
  else
  some (x4, h)
set_option maxRecDepth 100000 in
set_option maxHeartbeats 4000000 in
theorem w_M_readKind_380 {p : Program} {l : Launch} {e : Env} {s : State} {m : MethodId} {args : Array Value} {below : List Frame} {meth : Method} {c : Code} {N0 : Nat} {D : va_G} {cs : Nat → ClassId} (M : ZC p s m args meth c "YearBasketsModel" "readKind" b_M_readKind 7 (some .int) N0 D cs) (this : Nat)  {r0 : Int32} {h0 : Hp}  (s0 : Int32) (x4 : Int32) (x5 : Int32) (h : Hp) (hf : f_M_readKind_380 this s0 x4 x5 h = some (r0, h0)) : ZG p l e (zrm 2 0 0) s m args below meth c N0 D cs (some (.int r0)) h0 h 7 [(4, .int x4), (5, .int x5)] 380 [.int s0] := by
  intro H locs ls hH hS hl
  unfold f_M_readKind_380 at hf
  refine lv_istore (lv' := [(6, .int s0), (4, .int x4), (5, .int x5)]) M.x M.b d_M_readKind_380 hl (by decide) rfl (fun ls hl => ?_)
  refine lv_iload M.x M.b d_M_readKind_382 (lv_at hl 1 rfl) ?_
  refine lv_if_lt (tgt := 392) M.x M.b d_M_readKind_384 (by decide) (fun c2 => ?_) (fun c2 => ?_)
  · replace hf := z_t c2 hf
    refine lv_iload M.x M.b d_M_readKind_392 (lv_at hl 2 rfl) ?_
    refine lv_if_lt (tgt := 402) M.x M.b d_M_readKind_394 (by decide) (fun c1 => ?_) (fun c1 => ?_)
    · replace hf := z_t c1 hf
      refine lv_iload M.x M.b d_M_readKind_402 (lv_at hl 0 rfl) ?_
      obtain ⟨rfl, rfl⟩ := z_r2 hf
      exact z_iret M hH hS d_M_readKind_404
    · replace hf := z_f c1 hf
      refine lv_iload M.x M.b d_M_readKind_397 (lv_at hl 2 rfl) ?_
      refine lv_goto (tgt := 404) M.x M.b d_M_readKind_399 (by decide) ?_
      obtain ⟨rfl, rfl⟩ := z_r2 hf
      exact z_iret M hH hS d_M_readKind_404
  · replace hf := z_f c2 hf
    refine lv_iload M.x M.b d_M_readKind_387 (lv_at hl 1 rfl) ?_
    refine lv_goto (tgt := 404) M.x M.b d_M_readKind_389 (by decide) ?_
    obtain ⟨rfl, rfl⟩ := z_r2 hf
    exact z_iret M hH hS d_M_readKind_404
def f_M_readKind_311 (this : Nat) (s0 : Int32) (x2 : Int64) (x4 : Int32) (h : Hp) : Option ((Int32 × Hp)) :=
  (f_M_code (98 : Int32) (97 : Int32) (99 : Int32) (107 : Int32) (0 : Int32)).bind fun l4 =>
  if x2 = l4 then
    f_M_readKind_380 this (10 : Int32) x4 s0 h
  else
  (f_M_code (108 : Int32) (105 : Int32) (110 : Int32) (107 : Int32) (0 : Int32)).bind fun l6 =>
  if x2 = l6 then
    f_M_readKind_380 this (11 : Int32) x4 s0 h
  else
  (f_M_code (98 : Int32) (111 : Int32) (116 : Int32) (104 : Int32) (0 : Int32)).bind fun l8 =>
  if x2 = l8 then
    f_M_readKind_380 this (12 : Int32) x4 s0 h
  else
  f_M_readKind_380 this (-1 : Int32) x4 s0 h
set_option maxRecDepth 100000 in
set_option maxHeartbeats 4000000 in
theorem w_M_readKind_311 {p : Program} {l : Launch} {e : Env} {s : State} {m : MethodId} {args : Array Value} {below : List Frame} {meth : Method} {c : Code} {N0 : Nat} {D : va_G} {cs : Nat → ClassId} (M : ZC p s m args meth c "YearBasketsModel" "readKind" b_M_readKind 7 (some .int) N0 D cs) (this : Nat)  {r0 : Int32} {h0 : Hp}  (s0 : Int32) (x2 : Int64) (x4 : Int32) (h : Hp) (hf : f_M_readKind_311 this s0 x2 x4 h = some (r0, h0)) : ZG p l e (zrm 2 0 0) s m args below meth c N0 D cs (some (.int r0)) h0 h 7 [(2, .long x2), (4, .int x4)] 311 [.int s0] := by
  intro H locs ls hH hS hl
  unfold f_M_readKind_311 at hf
  refine lv_istore (lv' := [(5, .int s0), (2, .long x2), (4, .int x4)]) M.x M.b d_M_readKind_311 hl (by decide) rfl (fun ls hl => ?_)
  refine lv_lload_n M.x M.b d_M_readKind_313 rfl (lv_at hl 1 rfl) ?_
  refine lv_bipush (v := (98 : Int32)) M.x M.b d_M_readKind_314 rfl ?_
  refine lv_bipush (v := (97 : Int32)) M.x M.b d_M_readKind_316 rfl ?_
  refine lv_bipush (v := (99 : Int32)) M.x M.b d_M_readKind_318 rfl ?_
  refine lv_bipush (v := (107 : Int32)) M.x M.b d_M_readKind_320 rfl ?_
  refine lv_iconst (v := (0 : Int32)) M.x M.b d_M_readKind_322 rfl ?_
  replace hf := z_bind hf; obtain ⟨l4, e3, hf⟩ := hf
  refine zk_S (st1 := [.long l4, .long x2]) M hH hS (c_M_code e3) w_M_code q_625 [.long x2] rfl ⟨Nat.le_of_ble_eq_true rfl, Nat.le_of_ble_eq_true rfl⟩ hl.1 rfl rfl (Nat.le_of_ble_eq_true rfl) d_M_readKind_323 (fun H locs hH hS => ?_)
  refine z_lcmp_ne (tgt := 335) M d_M_readKind_326 d_M_readKind_327 (by decide) (fun c11 => ?_) (fun c11 => ?_)
  · replace hf := z_f c11 hf
    refine lv_lload_n M.x M.b d_M_readKind_335 rfl (lv_at hl 1 rfl) ?_
    refine lv_bipush (v := (108 : Int32)) M.x M.b d_M_readKind_336 rfl ?_
    refine lv_bipush (v := (105 : Int32)) M.x M.b d_M_readKind_338 rfl ?_
    refine lv_bipush (v := (110 : Int32)) M.x M.b d_M_readKind_340 rfl ?_
    refine lv_bipush (v := (107 : Int32)) M.x M.b d_M_readKind_342 rfl ?_
    refine lv_iconst (v := (0 : Int32)) M.x M.b d_M_readKind_344 rfl ?_
    replace hf := z_bind hf; obtain ⟨l6, e5, hf⟩ := hf
    refine zk_S (st1 := [.long l6, .long x2]) M hH hS (c_M_code e5) w_M_code q_625 [.long x2] rfl ⟨Nat.le_of_ble_eq_true rfl, Nat.le_of_ble_eq_true rfl⟩ hl.1 rfl rfl (Nat.le_of_ble_eq_true rfl) d_M_readKind_345 (fun H locs hH hS => ?_)
    refine z_lcmp_ne (tgt := 357) M d_M_readKind_348 d_M_readKind_349 (by decide) (fun c10 => ?_) (fun c10 => ?_)
    · replace hf := z_f c10 hf
      refine lv_lload_n M.x M.b d_M_readKind_357 rfl (lv_at hl 1 rfl) ?_
      refine lv_bipush (v := (98 : Int32)) M.x M.b d_M_readKind_358 rfl ?_
      refine lv_bipush (v := (111 : Int32)) M.x M.b d_M_readKind_360 rfl ?_
      refine lv_bipush (v := (116 : Int32)) M.x M.b d_M_readKind_362 rfl ?_
      refine lv_bipush (v := (104 : Int32)) M.x M.b d_M_readKind_364 rfl ?_
      refine lv_iconst (v := (0 : Int32)) M.x M.b d_M_readKind_366 rfl ?_
      replace hf := z_bind hf; obtain ⟨l8, e7, hf⟩ := hf
      refine zk_S (st1 := [.long l8, .long x2]) M hH hS (c_M_code e7) w_M_code q_625 [.long x2] rfl ⟨Nat.le_of_ble_eq_true rfl, Nat.le_of_ble_eq_true rfl⟩ hl.1 rfl rfl (Nat.le_of_ble_eq_true rfl) d_M_readKind_367 (fun H locs hH hS => ?_)
      refine z_lcmp_ne (tgt := 379) M d_M_readKind_370 d_M_readKind_371 (by decide) (fun c9 => ?_) (fun c9 => ?_)
      · replace hf := z_f c9 hf
        refine lv_iconst (v := (-1 : Int32)) M.x M.b d_M_readKind_379 rfl ?_
        exact w_M_readKind_380 M this _ _ _ _ hf H locs ls hH hS (lv_sub hl [2, 0] rfl)
      · replace hf := z_t c9 hf
        refine lv_bipush (v := (12 : Int32)) M.x M.b d_M_readKind_374 rfl ?_
        refine lv_goto (tgt := 380) M.x M.b d_M_readKind_376 (by decide) ?_
        exact w_M_readKind_380 M this _ _ _ _ hf H locs ls hH hS (lv_sub hl [2, 0] rfl)
    · replace hf := z_t c10 hf
      refine lv_bipush (v := (11 : Int32)) M.x M.b d_M_readKind_352 rfl ?_
      refine lv_goto (tgt := 380) M.x M.b d_M_readKind_354 (by decide) ?_
      exact w_M_readKind_380 M this _ _ _ _ hf H locs ls hH hS (lv_sub hl [2, 0] rfl)
  · replace hf := z_t c11 hf
    refine lv_bipush (v := (10 : Int32)) M.x M.b d_M_readKind_330 rfl ?_
    refine lv_goto (tgt := 380) M.x M.b d_M_readKind_332 (by decide) ?_
    exact w_M_readKind_380 M this _ _ _ _ hf H locs ls hH hS (lv_sub hl [2, 0] rfl)
def f_M_readKind_219 (this : Nat) (s0 : Int32) (x2 : Int64) (h : Hp) : Option ((Int32 × Hp)) :=
  (f_M_code (114 : Int32) (111 : Int32) (111 : Int32) (116 : Int32) (0 : Int32)).bind fun l13 =>
  if x2 = l13 then
    f_M_readKind_311 this (6 : Int32) x2 s0 h
  else
  (f_M_code (109 : Int32) (101 : Int32) (97 : Int32) (110 : Int32) (0 : Int32)).bind fun l15 =>
  if x2 = l15 then
    f_M_readKind_311 this (7 : Int32) x2 s0 h
  else
  (f_M_code (108 : Int32) (101 : Int32) (97 : Int32) (115 : Int32) (116 : Int32)).bind fun l17 =>
  if x2 = l17 then
    f_M_readKind_311 this (8 : Int32) x2 s0 h
  else
  (f_M_code (109 : Int32) (111 : Int32) (115 : Int32) (116 : Int32) (0 : Int32)).bind fun l19 =>
  if x2 = l19 then
    f_M_readKind_311 this (9 : Int32) x2 s0 h
  else
  f_M_readKind_311 this (-1 : Int32) x2 s0 h
set_option maxRecDepth 100000 in
set_option maxHeartbeats 4000000 in
theorem w_M_readKind_219 {p : Program} {l : Launch} {e : Env} {s : State} {m : MethodId} {args : Array Value} {below : List Frame} {meth : Method} {c : Code} {N0 : Nat} {D : va_G} {cs : Nat → ClassId} (M : ZC p s m args meth c "YearBasketsModel" "readKind" b_M_readKind 7 (some .int) N0 D cs) (this : Nat)  {r0 : Int32} {h0 : Hp}  (s0 : Int32) (x2 : Int64) (h : Hp) (hf : f_M_readKind_219 this s0 x2 h = some (r0, h0)) : ZG p l e (zrm 2 0 0) s m args below meth c N0 D cs (some (.int r0)) h0 h 7 [(2, .long x2)] 219 [.int s0] := by
  intro H locs ls hH hS hl
  unfold f_M_readKind_219 at hf
  refine lv_istore (lv' := [(4, .int s0), (2, .long x2)]) M.x M.b d_M_readKind_219 hl (by decide) rfl (fun ls hl => ?_)
  refine lv_lload_n M.x M.b d_M_readKind_221 rfl (lv_at hl 1 rfl) ?_
  refine lv_bipush (v := (114 : Int32)) M.x M.b d_M_readKind_222 rfl ?_
  refine lv_bipush (v := (111 : Int32)) M.x M.b d_M_readKind_224 rfl ?_
  refine lv_bipush (v := (111 : Int32)) M.x M.b d_M_readKind_226 rfl ?_
  refine lv_bipush (v := (116 : Int32)) M.x M.b d_M_readKind_228 rfl ?_
  refine lv_iconst (v := (0 : Int32)) M.x M.b d_M_readKind_230 rfl ?_
  replace hf := z_bind hf; obtain ⟨l13, e12, hf⟩ := hf
  refine zk_S (st1 := [.long l13, .long x2]) M hH hS (c_M_code e12) w_M_code q_625 [.long x2] rfl ⟨Nat.le_of_ble_eq_true rfl, Nat.le_of_ble_eq_true rfl⟩ hl.1 rfl rfl (Nat.le_of_ble_eq_true rfl) d_M_readKind_231 (fun H locs hH hS => ?_)
  refine z_lcmp_ne (tgt := 243) M d_M_readKind_234 d_M_readKind_235 (by decide) (fun c23 => ?_) (fun c23 => ?_)
  · replace hf := z_f c23 hf
    refine lv_lload_n M.x M.b d_M_readKind_243 rfl (lv_at hl 1 rfl) ?_
    refine lv_bipush (v := (109 : Int32)) M.x M.b d_M_readKind_244 rfl ?_
    refine lv_bipush (v := (101 : Int32)) M.x M.b d_M_readKind_246 rfl ?_
    refine lv_bipush (v := (97 : Int32)) M.x M.b d_M_readKind_248 rfl ?_
    refine lv_bipush (v := (110 : Int32)) M.x M.b d_M_readKind_250 rfl ?_
    refine lv_iconst (v := (0 : Int32)) M.x M.b d_M_readKind_252 rfl ?_
    replace hf := z_bind hf; obtain ⟨l15, e14, hf⟩ := hf
    refine zk_S (st1 := [.long l15, .long x2]) M hH hS (c_M_code e14) w_M_code q_625 [.long x2] rfl ⟨Nat.le_of_ble_eq_true rfl, Nat.le_of_ble_eq_true rfl⟩ hl.1 rfl rfl (Nat.le_of_ble_eq_true rfl) d_M_readKind_253 (fun H locs hH hS => ?_)
    refine z_lcmp_ne (tgt := 265) M d_M_readKind_256 d_M_readKind_257 (by decide) (fun c22 => ?_) (fun c22 => ?_)
    · replace hf := z_f c22 hf
      refine lv_lload_n M.x M.b d_M_readKind_265 rfl (lv_at hl 1 rfl) ?_
      refine lv_bipush (v := (108 : Int32)) M.x M.b d_M_readKind_266 rfl ?_
      refine lv_bipush (v := (101 : Int32)) M.x M.b d_M_readKind_268 rfl ?_
      refine lv_bipush (v := (97 : Int32)) M.x M.b d_M_readKind_270 rfl ?_
      refine lv_bipush (v := (115 : Int32)) M.x M.b d_M_readKind_272 rfl ?_
      refine lv_bipush (v := (116 : Int32)) M.x M.b d_M_readKind_274 rfl ?_
      replace hf := z_bind hf; obtain ⟨l17, e16, hf⟩ := hf
      refine zk_S (st1 := [.long l17, .long x2]) M hH hS (c_M_code e16) w_M_code q_625 [.long x2] rfl ⟨Nat.le_of_ble_eq_true rfl, Nat.le_of_ble_eq_true rfl⟩ hl.1 rfl rfl (Nat.le_of_ble_eq_true rfl) d_M_readKind_276 (fun H locs hH hS => ?_)
      refine z_lcmp_ne (tgt := 288) M d_M_readKind_279 d_M_readKind_280 (by decide) (fun c21 => ?_) (fun c21 => ?_)
      · replace hf := z_f c21 hf
        refine lv_lload_n M.x M.b d_M_readKind_288 rfl (lv_at hl 1 rfl) ?_
        refine lv_bipush (v := (109 : Int32)) M.x M.b d_M_readKind_289 rfl ?_
        refine lv_bipush (v := (111 : Int32)) M.x M.b d_M_readKind_291 rfl ?_
        refine lv_bipush (v := (115 : Int32)) M.x M.b d_M_readKind_293 rfl ?_
        refine lv_bipush (v := (116 : Int32)) M.x M.b d_M_readKind_295 rfl ?_
        refine lv_iconst (v := (0 : Int32)) M.x M.b d_M_readKind_297 rfl ?_
        replace hf := z_bind hf; obtain ⟨l19, e18, hf⟩ := hf
        refine zk_S (st1 := [.long l19, .long x2]) M hH hS (c_M_code e18) w_M_code q_625 [.long x2] rfl ⟨Nat.le_of_ble_eq_true rfl, Nat.le_of_ble_eq_true rfl⟩ hl.1 rfl rfl (Nat.le_of_ble_eq_true rfl) d_M_readKind_298 (fun H locs hH hS => ?_)
        refine z_lcmp_ne (tgt := 310) M d_M_readKind_301 d_M_readKind_302 (by decide) (fun c20 => ?_) (fun c20 => ?_)
        · replace hf := z_f c20 hf
          refine lv_iconst (v := (-1 : Int32)) M.x M.b d_M_readKind_310 rfl ?_
          exact w_M_readKind_311 M this _ _ _ _ hf H locs ls hH hS (lv_sub hl [1, 0] rfl)
        · replace hf := z_t c20 hf
          refine lv_bipush (v := (9 : Int32)) M.x M.b d_M_readKind_305 rfl ?_
          refine lv_goto (tgt := 311) M.x M.b d_M_readKind_307 (by decide) ?_
          exact w_M_readKind_311 M this _ _ _ _ hf H locs ls hH hS (lv_sub hl [1, 0] rfl)
      · replace hf := z_t c21 hf
        refine lv_bipush (v := (8 : Int32)) M.x M.b d_M_readKind_283 rfl ?_
        refine lv_goto (tgt := 311) M.x M.b d_M_readKind_285 (by decide) ?_
        exact w_M_readKind_311 M this _ _ _ _ hf H locs ls hH hS (lv_sub hl [1, 0] rfl)
    · replace hf := z_t c22 hf
      refine lv_bipush (v := (7 : Int32)) M.x M.b d_M_readKind_260 rfl ?_
      refine lv_goto (tgt := 311) M.x M.b d_M_readKind_262 (by decide) ?_
      exact w_M_readKind_311 M this _ _ _ _ hf H locs ls hH hS (lv_sub hl [1, 0] rfl)
  · replace hf := z_t c23 hf
    refine lv_bipush (v := (6 : Int32)) M.x M.b d_M_readKind_238 rfl ?_
    refine lv_goto (tgt := 311) M.x M.b d_M_readKind_240 (by decide) ?_
    exact w_M_readKind_311 M this _ _ _ _ hf H locs ls hH hS (lv_sub hl [1, 0] rfl)
def f_M_readKind_96 (this : Nat) (x2 : Int64) (h : Hp) : Option ((Int32 × Hp)) :=
  (f_M_code (111 : Int32) (108 : Int32) (100 : Int32) (0 : Int32) (0 : Int32)).bind fun l25 =>
  if x2 = l25 then
    f_M_readKind_219 this (0 : Int32) x2 h
  else
  (f_M_code (110 : Int32) (101 : Int32) (119 : Int32) (0 : Int32) (0 : Int32)).bind fun l27 =>
  if x2 = l27 then
    f_M_readKind_219 this (1 : Int32) x2 h
  else
  (f_M_code (109 : Int32) (105 : Int32) (100 : Int32) (0 : Int32) (0 : Int32)).bind fun l29 =>
  if x2 = l29 then
    f_M_readKind_219 this (2 : Int32) x2 h
  else
  (f_M_code (97 : Int32) (116 : Int32) (0 : Int32) (0 : Int32) (0 : Int32)).bind fun l31 =>
  if x2 = l31 then
    f_M_readKind_219 this (3 : Int32) x2 h
  else
  (f_M_code (112 : Int32) (108 : Int32) (97 : Int32) (105 : Int32) (110 : Int32)).bind fun l33 =>
  if x2 = l33 then
    f_M_readKind_219 this (4 : Int32) x2 h
  else
  (f_M_code (115 : Int32) (117 : Int32) (109 : Int32) (115 : Int32) (0 : Int32)).bind fun l35 =>
  if x2 = l35 then
    f_M_readKind_219 this (5 : Int32) x2 h
  else
  f_M_readKind_219 this (-1 : Int32) x2 h
set_option maxRecDepth 100000 in
set_option maxHeartbeats 4000000 in
theorem w_M_readKind_96 {p : Program} {l : Launch} {e : Env} {s : State} {m : MethodId} {args : Array Value} {below : List Frame} {meth : Method} {c : Code} {N0 : Nat} {D : va_G} {cs : Nat → ClassId} (M : ZC p s m args meth c "YearBasketsModel" "readKind" b_M_readKind 7 (some .int) N0 D cs) (this : Nat)  {r0 : Int32} {h0 : Hp}  (x2 : Int64) (h : Hp) (hf : f_M_readKind_96 this x2 h = some (r0, h0)) : ZG p l e (zrm 2 0 0) s m args below meth c N0 D cs (some (.int r0)) h0 h 7 [(2, .long x2)] 96 [] := by
  intro H locs ls hH hS hl
  unfold f_M_readKind_96 at hf
  refine lv_lload_n M.x M.b d_M_readKind_96 rfl (lv_at hl 0 rfl) ?_
  refine lv_bipush (v := (111 : Int32)) M.x M.b d_M_readKind_97 rfl ?_
  refine lv_bipush (v := (108 : Int32)) M.x M.b d_M_readKind_99 rfl ?_
  refine lv_bipush (v := (100 : Int32)) M.x M.b d_M_readKind_101 rfl ?_
  refine lv_iconst (v := (0 : Int32)) M.x M.b d_M_readKind_103 rfl ?_
  refine lv_iconst (v := (0 : Int32)) M.x M.b d_M_readKind_104 rfl ?_
  replace hf := z_bind hf; obtain ⟨l25, e24, hf⟩ := hf
  refine zk_S (st1 := [.long l25, .long x2]) M hH hS (c_M_code e24) w_M_code q_625 [.long x2] rfl ⟨Nat.le_of_ble_eq_true rfl, Nat.le_of_ble_eq_true rfl⟩ hl.1 rfl rfl (Nat.le_of_ble_eq_true rfl) d_M_readKind_105 (fun H locs hH hS => ?_)
  refine z_lcmp_ne (tgt := 116) M d_M_readKind_108 d_M_readKind_109 (by decide) (fun c41 => ?_) (fun c41 => ?_)
  · replace hf := z_f c41 hf
    refine lv_lload_n M.x M.b d_M_readKind_116 rfl (lv_at hl 0 rfl) ?_
    refine lv_bipush (v := (110 : Int32)) M.x M.b d_M_readKind_117 rfl ?_
    refine lv_bipush (v := (101 : Int32)) M.x M.b d_M_readKind_119 rfl ?_
    refine lv_bipush (v := (119 : Int32)) M.x M.b d_M_readKind_121 rfl ?_
    refine lv_iconst (v := (0 : Int32)) M.x M.b d_M_readKind_123 rfl ?_
    refine lv_iconst (v := (0 : Int32)) M.x M.b d_M_readKind_124 rfl ?_
    replace hf := z_bind hf; obtain ⟨l27, e26, hf⟩ := hf
    refine zk_S (st1 := [.long l27, .long x2]) M hH hS (c_M_code e26) w_M_code q_625 [.long x2] rfl ⟨Nat.le_of_ble_eq_true rfl, Nat.le_of_ble_eq_true rfl⟩ hl.1 rfl rfl (Nat.le_of_ble_eq_true rfl) d_M_readKind_125 (fun H locs hH hS => ?_)
    refine z_lcmp_ne (tgt := 136) M d_M_readKind_128 d_M_readKind_129 (by decide) (fun c40 => ?_) (fun c40 => ?_)
    · replace hf := z_f c40 hf
      refine lv_lload_n M.x M.b d_M_readKind_136 rfl (lv_at hl 0 rfl) ?_
      refine lv_bipush (v := (109 : Int32)) M.x M.b d_M_readKind_137 rfl ?_
      refine lv_bipush (v := (105 : Int32)) M.x M.b d_M_readKind_139 rfl ?_
      refine lv_bipush (v := (100 : Int32)) M.x M.b d_M_readKind_141 rfl ?_
      refine lv_iconst (v := (0 : Int32)) M.x M.b d_M_readKind_143 rfl ?_
      refine lv_iconst (v := (0 : Int32)) M.x M.b d_M_readKind_144 rfl ?_
      replace hf := z_bind hf; obtain ⟨l29, e28, hf⟩ := hf
      refine zk_S (st1 := [.long l29, .long x2]) M hH hS (c_M_code e28) w_M_code q_625 [.long x2] rfl ⟨Nat.le_of_ble_eq_true rfl, Nat.le_of_ble_eq_true rfl⟩ hl.1 rfl rfl (Nat.le_of_ble_eq_true rfl) d_M_readKind_145 (fun H locs hH hS => ?_)
      refine z_lcmp_ne (tgt := 156) M d_M_readKind_148 d_M_readKind_149 (by decide) (fun c39 => ?_) (fun c39 => ?_)
      · replace hf := z_f c39 hf
        refine lv_lload_n M.x M.b d_M_readKind_156 rfl (lv_at hl 0 rfl) ?_
        refine lv_bipush (v := (97 : Int32)) M.x M.b d_M_readKind_157 rfl ?_
        refine lv_bipush (v := (116 : Int32)) M.x M.b d_M_readKind_159 rfl ?_
        refine lv_iconst (v := (0 : Int32)) M.x M.b d_M_readKind_161 rfl ?_
        refine lv_iconst (v := (0 : Int32)) M.x M.b d_M_readKind_162 rfl ?_
        refine lv_iconst (v := (0 : Int32)) M.x M.b d_M_readKind_163 rfl ?_
        replace hf := z_bind hf; obtain ⟨l31, e30, hf⟩ := hf
        refine zk_S (st1 := [.long l31, .long x2]) M hH hS (c_M_code e30) w_M_code q_625 [.long x2] rfl ⟨Nat.le_of_ble_eq_true rfl, Nat.le_of_ble_eq_true rfl⟩ hl.1 rfl rfl (Nat.le_of_ble_eq_true rfl) d_M_readKind_164 (fun H locs hH hS => ?_)
        refine z_lcmp_ne (tgt := 175) M d_M_readKind_167 d_M_readKind_168 (by decide) (fun c38 => ?_) (fun c38 => ?_)
        · replace hf := z_f c38 hf
          refine lv_lload_n M.x M.b d_M_readKind_175 rfl (lv_at hl 0 rfl) ?_
          refine lv_bipush (v := (112 : Int32)) M.x M.b d_M_readKind_176 rfl ?_
          refine lv_bipush (v := (108 : Int32)) M.x M.b d_M_readKind_178 rfl ?_
          refine lv_bipush (v := (97 : Int32)) M.x M.b d_M_readKind_180 rfl ?_
          refine lv_bipush (v := (105 : Int32)) M.x M.b d_M_readKind_182 rfl ?_
          refine lv_bipush (v := (110 : Int32)) M.x M.b d_M_readKind_184 rfl ?_
          replace hf := z_bind hf; obtain ⟨l33, e32, hf⟩ := hf
          refine zk_S (st1 := [.long l33, .long x2]) M hH hS (c_M_code e32) w_M_code q_625 [.long x2] rfl ⟨Nat.le_of_ble_eq_true rfl, Nat.le_of_ble_eq_true rfl⟩ hl.1 rfl rfl (Nat.le_of_ble_eq_true rfl) d_M_readKind_186 (fun H locs hH hS => ?_)
          refine z_lcmp_ne (tgt := 197) M d_M_readKind_189 d_M_readKind_190 (by decide) (fun c37 => ?_) (fun c37 => ?_)
          · replace hf := z_f c37 hf
            refine lv_lload_n M.x M.b d_M_readKind_197 rfl (lv_at hl 0 rfl) ?_
            refine lv_bipush (v := (115 : Int32)) M.x M.b d_M_readKind_198 rfl ?_
            refine lv_bipush (v := (117 : Int32)) M.x M.b d_M_readKind_200 rfl ?_
            refine lv_bipush (v := (109 : Int32)) M.x M.b d_M_readKind_202 rfl ?_
            refine lv_bipush (v := (115 : Int32)) M.x M.b d_M_readKind_204 rfl ?_
            refine lv_iconst (v := (0 : Int32)) M.x M.b d_M_readKind_206 rfl ?_
            replace hf := z_bind hf; obtain ⟨l35, e34, hf⟩ := hf
            refine zk_S (st1 := [.long l35, .long x2]) M hH hS (c_M_code e34) w_M_code q_625 [.long x2] rfl ⟨Nat.le_of_ble_eq_true rfl, Nat.le_of_ble_eq_true rfl⟩ hl.1 rfl rfl (Nat.le_of_ble_eq_true rfl) d_M_readKind_207 (fun H locs hH hS => ?_)
            refine z_lcmp_ne (tgt := 218) M d_M_readKind_210 d_M_readKind_211 (by decide) (fun c36 => ?_) (fun c36 => ?_)
            · replace hf := z_f c36 hf
              refine lv_iconst (v := (-1 : Int32)) M.x M.b d_M_readKind_218 rfl ?_
              exact w_M_readKind_219 M this _ _ _ hf H locs ls hH hS (lv_sub hl [0] rfl)
            · replace hf := z_t c36 hf
              refine lv_iconst (v := (5 : Int32)) M.x M.b d_M_readKind_214 rfl ?_
              refine lv_goto (tgt := 219) M.x M.b d_M_readKind_215 (by decide) ?_
              exact w_M_readKind_219 M this _ _ _ hf H locs ls hH hS (lv_sub hl [0] rfl)
          · replace hf := z_t c37 hf
            refine lv_iconst (v := (4 : Int32)) M.x M.b d_M_readKind_193 rfl ?_
            refine lv_goto (tgt := 219) M.x M.b d_M_readKind_194 (by decide) ?_
            exact w_M_readKind_219 M this _ _ _ hf H locs ls hH hS (lv_sub hl [0] rfl)
        · replace hf := z_t c38 hf
          refine lv_iconst (v := (3 : Int32)) M.x M.b d_M_readKind_171 rfl ?_
          refine lv_goto (tgt := 219) M.x M.b d_M_readKind_172 (by decide) ?_
          exact w_M_readKind_219 M this _ _ _ hf H locs ls hH hS (lv_sub hl [0] rfl)
      · replace hf := z_t c39 hf
        refine lv_iconst (v := (2 : Int32)) M.x M.b d_M_readKind_152 rfl ?_
        refine lv_goto (tgt := 219) M.x M.b d_M_readKind_153 (by decide) ?_
        exact w_M_readKind_219 M this _ _ _ hf H locs ls hH hS (lv_sub hl [0] rfl)
    · replace hf := z_t c40 hf
      refine lv_iconst (v := (1 : Int32)) M.x M.b d_M_readKind_132 rfl ?_
      refine lv_goto (tgt := 219) M.x M.b d_M_readKind_133 (by decide) ?_
      exact w_M_readKind_219 M this _ _ _ hf H locs ls hH hS (lv_sub hl [0] rfl)
  · replace hf := z_t c41 hf
    refine lv_iconst (v := (0 : Int32)) M.x M.b d_M_readKind_112 rfl ?_
    refine lv_goto (tgt := 219) M.x M.b d_M_readKind_113 (by decide) ?_
    exact w_M_readKind_219 M this _ _ _ hf H locs ls hH hS (lv_sub hl [0] rfl)
def f_M_readKind_82 (this : Nat) (k15 : Int64 → Hp → Option ((Int32 × Hp))) (s0 : Int64) (h : Hp) : Option ((Int32 × Hp)) :=
  (gI h this 8 9).bind fun i42 =>
  (pV h this 8 9 (.int (i42 + (1 : Int32)))).bind fun h44 =>
  k15 s0 h44
set_option maxRecDepth 100000 in
set_option maxHeartbeats 4000000 in
theorem w_M_readKind_82 {p : Program} {l : Launch} {e : Env} {s : State} {m : MethodId} {args : Array Value} {below : List Frame} {meth : Method} {c : Code} {N0 : Nat} {D : va_G} {cs : Nat → ClassId} (M : ZC p s m args meth c "YearBasketsModel" "readKind" b_M_readKind 7 (some .int) N0 D cs) (this : Nat) (k15 : Int64 → Hp → Option ((Int32 × Hp))) {r0 : Int32} {h0 : Hp} (hk15 : ∀ (x2 : Int64) (h : Hp), k15 x2 h = some (r0, h0) → ZG p l e (zrm 2 0 0) s m args below meth c N0 D cs (some (.int r0)) h0 h 7 [(0, .ref this), (2, .long x2)] 15 []) (s0 : Int64) (h : Hp) (hf : f_M_readKind_82 this k15 s0 h = some (r0, h0)) : ZG p l e (zrm 2 0 0) s m args below meth c N0 D cs (some (.int r0)) h0 h 7 [(0, .ref this)] 82 [.long s0] := by
  intro H locs ls hH hS hl
  unfold f_M_readKind_82 at hf
  refine lv_lstore_n (lv' := [(2, .long s0), (0, .ref this)]) M.x M.b d_M_readKind_82 rfl hl (by decide) rfl (fun ls hl => ?_)
  refine lv_aload_n M.x M.b d_M_readKind_83 rfl (lv_at hl 1 rfl) ?_
  refine lv_dup M.x M.b d_M_readKind_84 rfl ?_
  replace hf := z_bind hf; obtain ⟨i42, e43, hf⟩ := hf
  refine z_get (ci := 8) (k := 9) M hH rfl (by decide) zinM q_626 (gI_spec e43) d_M_readKind_85 ?_
  refine lv_iconst (v := (1 : Int32)) M.x M.b d_M_readKind_88 rfl ?_
  refine lv_iadd M.x M.b d_M_readKind_89 ?_
  replace hf := z_bind hf; obtain ⟨h44, e45, hf⟩ := hf
  refine z_put (ci := 8) (k := 9) M hH hS rfl (by decide) zinM zYM zYM_ok zNM_ok rfl q_626 rfl rfl rfl e45 d_M_readKind_90 (fun H locs hH hS => ?_)
  refine lv_goto (tgt := 15) M.x M.b d_M_readKind_93 (by decide) ?_
  exact hk15 _ _ hf H locs ls hH hS (lv_sub hl [1, 0] rfl)
def t_M_readKind_15 (this : Nat) (k15 : Int64 → Hp → Option ((Int32 × Hp))) (x2 : Int64) (h : Hp) : Option ((Int32 × Hp)) :=
  (gI h this 8 9).bind fun i46 =>
  (gI h this 8 6).bind fun i48 =>
  if i48 ≤ i46 then
    f_M_readKind_96 this x2 h
  else
  (gA h this 8 5).bind fun r50 =>
  (gI h this 8 9).bind fun i52 =>
  (r50).bind fun a54 =>
  (aI h 0 a54 i52).bind fun i57 =>
  (f_M_in (i57).toInt64 (97 : Int64) (122 : Int64)).bind fun i59 =>
  if i59 = 0 then
    f_M_readKind_96 this x2 h
  else
  if x2 ≤ (1000000000 : Int64) then
    (gA h this 8 5).bind fun r60 =>
    (gI h this 8 9).bind fun i62 =>
    (r60).bind fun a64 =>
    (aI h 0 a64 i62).bind fun i67 =>
    f_M_readKind_82 this k15 ((((27 : Int64) * x2) + (i67).toInt64) - (96 : Int64)) h
  else
  f_M_readKind_82 this k15 (2000000000 : Int64) h
set_option maxRecDepth 100000 in
set_option maxHeartbeats 4000000 in
theorem v_M_readKind_15 {p : Program} {l : Launch} {e : Env} {s : State} {m : MethodId} {args : Array Value} {below : List Frame} {meth : Method} {c : Code} {N0 : Nat} {D : va_G} {cs : Nat → ClassId} (M : ZC p s m args meth c "YearBasketsModel" "readKind" b_M_readKind 7 (some .int) N0 D cs) (this : Nat) (k15 : Int64 → Hp → Option ((Int32 × Hp))) {r0 : Int32} {h0 : Hp} (hk15 : ∀ (x2 : Int64) (h : Hp), k15 x2 h = some (r0, h0) → ZG p l e (zrm 2 0 0) s m args below meth c N0 D cs (some (.int r0)) h0 h 7 [(0, .ref this), (2, .long x2)] 15 []) (x2 : Int64) (h : Hp) (hf : t_M_readKind_15 this k15 x2 h = some (r0, h0)) : ZG p l e (zrm 2 0 0) s m args below meth c N0 D cs (some (.int r0)) h0 h 7 [(0, .ref this), (2, .long x2)] 15 [] := by
  intro H locs ls hH hS hl
  unfold t_M_readKind_15 at hf
  refine lv_aload_n M.x M.b d_M_readKind_15 rfl (lv_at hl 0 rfl) ?_
  replace hf := z_bind hf; obtain ⟨i46, e47, hf⟩ := hf
  refine z_get (ci := 8) (k := 9) M hH rfl (by decide) zinM q_626 (gI_spec e47) d_M_readKind_16 ?_
  refine lv_aload_n M.x M.b d_M_readKind_19 rfl (lv_at hl 0 rfl) ?_
  replace hf := z_bind hf; obtain ⟨i48, e49, hf⟩ := hf
  refine z_get (ci := 8) (k := 6) M hH rfl (by decide) zinM q_598 (gI_spec e49) d_M_readKind_20 ?_
  refine lv_icmp_ge (tgt := 96) M.x M.b d_M_readKind_23 (by decide) (fun c70 => ?_) (fun c70 => ?_)
  · replace hf := z_t c70 hf
    exact w_M_readKind_96 M this _ _ hf H locs ls hH hS (lv_sub hl [1] rfl)
  · replace hf := z_f c70 hf
    refine lv_aload_n M.x M.b d_M_readKind_26 rfl (lv_at hl 0 rfl) ?_
    replace hf := z_bind hf; obtain ⟨r50, e51, hf⟩ := hf
    refine z_get (ci := 8) (k := 5) M hH rfl (by decide) zinM q_603 (gA_spec e51) d_M_readKind_27 ?_
    refine lv_aload_n M.x M.b d_M_readKind_30 rfl (lv_at hl 0 rfl) ?_
    replace hf := z_bind hf; obtain ⟨i52, e53, hf⟩ := hf
    refine z_get (ci := 8) (k := 9) M hH rfl (by decide) zinM q_626 (gI_spec e53) d_M_readKind_31 ?_
    rcases r50 with _ | a54
    · exact absurd hf z_nb0
    replace hf := z_sb hf
    replace hf := z_bind hf; obtain ⟨i57, e56, hf⟩ := hf
    refine z_iald M hH e56 d_M_readKind_34 ?_
    refine lv_i2l M.x M.b d_M_readKind_35 rfl ?_
    refine z_ldc2 (v := (97 : Int64)) M q_627 d_M_readKind_36 ?_
    refine z_ldc2 (v := (122 : Int64)) M q_628 d_M_readKind_39 ?_
    replace hf := z_bind hf; obtain ⟨i59, e58, hf⟩ := hf
    refine zk_S (st1 := [.int i59]) M hH hS (c_M_in e58) w_M_in q_551 [] rfl ⟨Nat.le_of_ble_eq_true rfl, Nat.le_of_ble_eq_true rfl⟩ hl.1 rfl rfl (Nat.le_of_ble_eq_true rfl) d_M_readKind_42 (fun H locs hH hS => ?_)
    refine lv_if_eq (tgt := 96) M.x M.b d_M_readKind_45 (by decide) (fun c69 => ?_) (fun c69 => ?_)
    · replace hf := z_t c69 hf
      exact w_M_readKind_96 M this _ _ hf H locs ls hH hS (lv_sub hl [1] rfl)
    · replace hf := z_f c69 hf
      refine lv_lload_n M.x M.b d_M_readKind_48 rfl (lv_at hl 1 rfl) ?_
      refine z_ldc2 (v := (1000000000 : Int64)) M q_629 d_M_readKind_49 ?_
      refine z_lcmp_le (tgt := 62) M d_M_readKind_52 d_M_readKind_53 (by decide) (fun c68 => ?_) (fun c68 => ?_)
      · replace hf := z_t c68 hf
        refine z_ldc2 (v := (27 : Int64)) M q_620 d_M_readKind_62 ?_
        refine lv_lload_n M.x M.b d_M_readKind_65 rfl (lv_at hl 1 rfl) ?_
        refine lv_lmul M.x M.b d_M_readKind_66 ?_
        refine lv_aload_n M.x M.b d_M_readKind_67 rfl (lv_at hl 0 rfl) ?_
        replace hf := z_bind hf; obtain ⟨r60, e61, hf⟩ := hf
        refine z_get (ci := 8) (k := 5) M hH rfl (by decide) zinM q_603 (gA_spec e61) d_M_readKind_68 ?_
        refine lv_aload_n M.x M.b d_M_readKind_71 rfl (lv_at hl 0 rfl) ?_
        replace hf := z_bind hf; obtain ⟨i62, e63, hf⟩ := hf
        refine z_get (ci := 8) (k := 9) M hH rfl (by decide) zinM q_626 (gI_spec e63) d_M_readKind_72 ?_
        rcases r60 with _ | a64
        · exact absurd hf z_nb0
        replace hf := z_sb hf
        replace hf := z_bind hf; obtain ⟨i67, e66, hf⟩ := hf
        refine z_iald M hH e66 d_M_readKind_75 ?_
        refine lv_i2l M.x M.b d_M_readKind_76 rfl ?_
        refine lv_ladd M.x M.b d_M_readKind_77 ?_
        refine z_ldc2 (v := (96 : Int64)) M q_621 d_M_readKind_78 ?_
        refine lv_lsub M.x M.b d_M_readKind_81 ?_
        exact w_M_readKind_82 M this k15 hk15 _ _ hf H locs ls hH hS (lv_sub hl [0] rfl)
      · replace hf := z_f c68 hf
        refine z_ldc2 (v := (2000000000 : Int64)) M q_630 d_M_readKind_56 ?_
        refine lv_goto (tgt := 82) M.x M.b d_M_readKind_59 (by decide) ?_
        exact w_M_readKind_82 M this k15 hk15 _ _ hf H locs ls hH hS (lv_sub hl [0] rfl)
def f_M_readKind_15 (this : Nat) : Nat → Int64 → Hp → Option ((Int32 × Hp))
  | 0, _, _ => none
  | n + 1, x2, h => t_M_readKind_15 this (f_M_readKind_15 this n) x2 h
theorem w_M_readKind_15 {p : Program} {l : Launch} {e : Env} {s : State} {m : MethodId} {args : Array Value} {below : List Frame} {meth : Method} {c : Code} {N0 : Nat} {D : va_G} {cs : Nat → ClassId} (M : ZC p s m args meth c "YearBasketsModel" "readKind" b_M_readKind 7 (some .int) N0 D cs) (this : Nat)  {r0 : Int32} {h0 : Hp}  : ∀ (n : Nat) (x2 : Int64) (h : Hp), f_M_readKind_15 this n x2 h = some (r0, h0) → ZG p l e (zrm 2 0 0) s m args below meth c N0 D cs (some (.int r0)) h0 h 7 [(0, .ref this), (2, .long x2)] 15 [] := by
  intro n
  induction n with
  | zero => intro x2 h hf; exact absurd (show none = some _ from hf) (fun q => by cases q)
  | succ n ih => intro x2 h hf; exact v_M_readKind_15 M this (f_M_readKind_15 this n)  ih _ _ hf
def f_M_readKind (this : Nat) (h : Hp) : Option ((Int32 × Hp)) :=
  if isO h this 8 = true then
  zb2 (f_M_here this h) fun i72 h73 =>
  (gI h73 this 8 8).bind fun i74 =>
  (pV h73 this 8 9 (.int i74)).bind fun h76 =>
  f_M_readKind_15 this FU (0 : Int64) h76
  else none
theorem o_M_readKind {this : Nat} {h : Hp} {r0 : Int32} {h0 : Hp} (hf : f_M_readKind this h = some (r0, h0)) : isO h this 8 = true := by
  unfold f_M_readKind at hf
  exact (z_gd hf).1
set_option maxRecDepth 100000 in
set_option maxHeartbeats 4000000 in
theorem c_M_readKind {l : Launch} {N0 : Nat} {D : va_G} {cs : Nat → ClassId} {this : Nat} {h : Hp} {r0 : Int32} {h0 : Hp} (hf : f_M_readKind this h = some (r0, h0)) : Fn l N0 D cs y_M_readKind b_M_readKind 7 (some .int) 2 0 0 [.ref this] h (some (.int r0)) h0 := by
  refine z_start (by decide) (Nat.le_of_ble_eq_true rfl) ?_
  intro p e s m args below meth c M hH hS ls hl
  unfold f_M_readKind at hf
  obtain ⟨hO, hf⟩ := z_gd hf
  have hl : lv_has ls 7 [(0, .ref this)] := hl
  obtain ⟨H, hHe⟩ : ∃ H, H = s.heap := ⟨_, rfl⟩
  obtain ⟨locs, hLe⟩ : ∃ locs : List Loc, locs = [] := ⟨_, rfl⟩
  have hS : va_S (zA N0) s.heap H locs := by rw [hHe, hLe]; exact hS
  have hH : HH N0 D cs h H := by rw [hHe]; exact hH
  suffices hg : W p l e (zrm 2 0 0) s m args below meth c H locs 0 0 (MQ below (zQ N0 D cs (some (.int r0)) h0) args s 0 0 (zA N0)) (F0 m 0 ls []) by rw [hHe, hLe] at hg; exact hg
  clear hHe hLe
  refine lv_aload_n M.x M.b d_M_readKind_0 rfl (lv_at hl 0 rfl) ?_
  replace hf := z_bind2 hf; obtain ⟨i72, h73, e71, hf⟩ := hf
  refine zk_V (ci := 8) (st1 := [.int i72]) M hH hS (c_M_here e71) rfl (o_M_here e71) w_M_here q_617 [] rfl ⟨Nat.le_of_ble_eq_true rfl, Nat.le_of_ble_eq_true rfl⟩ hl.1 rfl rfl (Nat.le_of_ble_eq_true rfl) d_M_readKind_1 (fun H locs hH hS => ?_)
  refine lv_istore_n (lv' := [(1, .int i72), (0, .ref this)]) M.x M.b d_M_readKind_4 rfl hl (by decide) rfl (fun ls hl => ?_)
  refine lv_lconst (v := (0 : Int64)) M.x M.b d_M_readKind_5 rfl ?_
  refine lv_lstore_n (lv' := [(2, .long (0 : Int64)), (1, .int i72), (0, .ref this)]) M.x M.b d_M_readKind_6 rfl hl (by decide) rfl (fun ls hl => ?_)
  refine lv_aload_n M.x M.b d_M_readKind_7 rfl (lv_at hl 2 rfl) ?_
  refine lv_aload_n M.x M.b d_M_readKind_8 rfl (lv_at hl 2 rfl) ?_
  replace hf := z_bind hf; obtain ⟨i74, e75, hf⟩ := hf
  refine z_get (ci := 8) (k := 8) M hH rfl (by decide) zinM q_608 (gI_spec e75) d_M_readKind_9 ?_
  replace hf := z_bind hf; obtain ⟨h76, e77, hf⟩ := hf
  refine z_put (ci := 8) (k := 9) M hH hS rfl (by decide) zinM zYM zYM_ok zNM_ok rfl q_626 rfl rfl rfl e77 d_M_readKind_12 (fun H locs hH hS => ?_)
  exact w_M_readKind_15 M this FU _ _ hf H locs ls hH hS (lv_sub hl [2, 0] rfl)
def f_M_isTwo (x0 : Int32) : Option (Int32) :=
  if x0 < (6 : Int32) then
    some (0 : Int32)
  else
  if (9 : Int32) < x0 then
    some (0 : Int32)
  else
  some (1 : Int32)
set_option maxRecDepth 100000 in
set_option maxHeartbeats 4000000 in
theorem c_M_isTwo {l : Launch} {N0 : Nat} {D : va_G} {cs : Nat → ClassId} {x0 : Int32} {r0 : Int32} {h : Hp} (hf : f_M_isTwo x0 = some r0) : Fn l N0 D cs y_M_isTwo b_M_isTwo 1 (some .boolean) 1 0 0 [.int x0] h (some (.int r0)) h := by
  refine z_start (by decide) (Nat.le_of_ble_eq_true rfl) ?_
  intro p e s m args below meth c M hH hS ls hl
  unfold f_M_isTwo at hf
  have hl : lv_has ls 1 [(0, .int x0)] := hl
  obtain ⟨H, hHe⟩ : ∃ H, H = s.heap := ⟨_, rfl⟩
  obtain ⟨locs, hLe⟩ : ∃ locs : List Loc, locs = [] := ⟨_, rfl⟩
  have hS : va_S (zA N0) s.heap H locs := by rw [hHe, hLe]; exact hS
  have hH : HH N0 D cs h H := by rw [hHe]; exact hH
  suffices hg : W p l e (zrm 1 0 0) s m args below meth c H locs 0 0 (MQ below (zQ N0 D cs (some (.int r0)) h) args s 0 0 (zA N0)) (F0 m 0 ls []) by rw [hHe, hLe] at hg; exact hg
  clear hHe hLe
  refine lv_iload_n M.x M.b d_M_isTwo_0 rfl (lv_at hl 0 rfl) ?_
  refine lv_bipush (v := (6 : Int32)) M.x M.b d_M_isTwo_1 rfl ?_
  refine lv_icmp_lt (tgt := 16) M.x M.b d_M_isTwo_3 (by decide) (fun c2 => ?_) (fun c2 => ?_)
  · replace hf := z_t c2 hf
    refine lv_iconst (v := (0 : Int32)) M.x M.b d_M_isTwo_16 rfl ?_
    obtain rfl := z_r1 hf
    exact z_zret M hH hS (by decide) d_M_isTwo_17
  · replace hf := z_f c2 hf
    refine lv_iload_n M.x M.b d_M_isTwo_6 rfl (lv_at hl 0 rfl) ?_
    refine lv_bipush (v := (9 : Int32)) M.x M.b d_M_isTwo_7 rfl ?_
    refine lv_icmp_gt (tgt := 16) M.x M.b d_M_isTwo_9 (by decide) (fun c1 => ?_) (fun c1 => ?_)
    · replace hf := z_t c1 hf
      refine lv_iconst (v := (0 : Int32)) M.x M.b d_M_isTwo_16 rfl ?_
      obtain rfl := z_r1 hf
      exact z_zret M hH hS (by decide) d_M_isTwo_17
    · replace hf := z_f c1 hf
      refine lv_iconst (v := (1 : Int32)) M.x M.b d_M_isTwo_12 rfl ?_
      refine lv_goto (tgt := 17) M.x M.b d_M_isTwo_13 (by decide) ?_
      obtain rfl := z_r1 hf
      exact z_zret M hH hS (by decide) d_M_isTwo_17
def f_M_isOne (x0 : Int32) : Option (Int32) :=
  if x0 < (10 : Int32) then
    some (0 : Int32)
  else
  some (1 : Int32)
set_option maxRecDepth 100000 in
set_option maxHeartbeats 4000000 in
theorem c_M_isOne {l : Launch} {N0 : Nat} {D : va_G} {cs : Nat → ClassId} {x0 : Int32} {r0 : Int32} {h : Hp} (hf : f_M_isOne x0 = some r0) : Fn l N0 D cs y_M_isOne b_M_isOne 1 (some .boolean) 1 0 0 [.int x0] h (some (.int r0)) h := by
  refine z_start (by decide) (Nat.le_of_ble_eq_true rfl) ?_
  intro p e s m args below meth c M hH hS ls hl
  unfold f_M_isOne at hf
  have hl : lv_has ls 1 [(0, .int x0)] := hl
  obtain ⟨H, hHe⟩ : ∃ H, H = s.heap := ⟨_, rfl⟩
  obtain ⟨locs, hLe⟩ : ∃ locs : List Loc, locs = [] := ⟨_, rfl⟩
  have hS : va_S (zA N0) s.heap H locs := by rw [hHe, hLe]; exact hS
  have hH : HH N0 D cs h H := by rw [hHe]; exact hH
  suffices hg : W p l e (zrm 1 0 0) s m args below meth c H locs 0 0 (MQ below (zQ N0 D cs (some (.int r0)) h) args s 0 0 (zA N0)) (F0 m 0 ls []) by rw [hHe, hLe] at hg; exact hg
  clear hHe hLe
  refine lv_iload_n M.x M.b d_M_isOne_0 rfl (lv_at hl 0 rfl) ?_
  refine lv_bipush (v := (10 : Int32)) M.x M.b d_M_isOne_1 rfl ?_
  refine lv_icmp_lt (tgt := 10) M.x M.b d_M_isOne_3 (by decide) (fun c1 => ?_) (fun c1 => ?_)
  · replace hf := z_t c1 hf
    refine lv_iconst (v := (0 : Int32)) M.x M.b d_M_isOne_10 rfl ?_
    obtain rfl := z_r1 hf
    exact z_zret M hH hS (by decide) d_M_isOne_11
  · replace hf := z_f c1 hf
    refine lv_iconst (v := (1 : Int32)) M.x M.b d_M_isOne_6 rfl ?_
    refine lv_goto (tgt := 11) M.x M.b d_M_isOne_7 (by decide) ?_
    obtain rfl := z_r1 hf
    exact z_zret M hH hS (by decide) d_M_isOne_11
def f_M_readNode_139 (this : Nat) (x2 : Int32) (x3 : Int32) (h : Hp) : Option ((Int32 × Hp)) :=
  (gA h this 8 10).bind fun r1 =>
  (gI h this 8 12).bind fun i3 =>
  (r1).bind fun a5 =>
  (sI h a5 i3 x3).bind fun h8 =>
  (gA h8 this 8 11).bind fun r9 =>
  (gI h8 this 8 12).bind fun i11 =>
  (r9).bind fun a13 =>
  (sZ h8 a13 i11 (0 : Int32)).bind fun h16 =>
  (gI h16 this 8 12).bind fun i17 =>
  (pV h16 this 8 12 (.int (i17 + (1 : Int32)))).bind fun h19 =>
  (f_M_isTwo x2).bind fun i22 =>
  if i22 = 0 then
    some ((0 : Int32), h19)
  else
  zb2 (f_M_sign this (40 : Int32) h19) fun i24 h25 =>
  some (i24, h25)
set_option maxRecDepth 100000 in
set_option maxHeartbeats 4000000 in
theorem w_M_readNode_139 {p : Program} {l : Launch} {e : Env} {s : State} {m : MethodId} {args : Array Value} {below : List Frame} {meth : Method} {c : Code} {N0 : Nat} {D : va_G} {cs : Nat → ClassId} (M : ZC p s m args meth c "YearBasketsModel" "readNode" b_M_readNode 5 (some .int) N0 D cs) (this : Nat)  {r0 : Int32} {h0 : Hp}  (x2 : Int32) (x3 : Int32) (h : Hp) (hf : f_M_readNode_139 this x2 x3 h = some (r0, h0)) : ZG p l e (zrm 3 0 0) s m args below meth c N0 D cs (some (.int r0)) h0 h 5 [(0, .ref this), (2, .int x2), (3, .int x3)] 139 [] := by
  intro H locs ls hH hS hl
  unfold f_M_readNode_139 at hf
  refine lv_aload_n M.x M.b d_M_readNode_139 rfl (lv_at hl 0 rfl) ?_
  replace hf := z_bind hf; obtain ⟨r1, e2, hf⟩ := hf
  refine z_get (ci := 8) (k := 10) M hH rfl (by decide) zinM q_642 (gA_spec e2) d_M_readNode_140 ?_
  refine lv_aload_n M.x M.b d_M_readNode_143 rfl (lv_at hl 0 rfl) ?_
  replace hf := z_bind hf; obtain ⟨i3, e4, hf⟩ := hf
  refine z_get (ci := 8) (k := 12) M hH rfl (by decide) zinM q_640 (gI_spec e4) d_M_readNode_144 ?_
  refine lv_iload_n M.x M.b d_M_readNode_147 rfl (lv_at hl 2 rfl) ?_
  rcases r1 with _ | a5
  · exact absurd hf z_nb0
  replace hf := z_sb hf
  replace hf := z_bind hf; obtain ⟨h8, e7, hf⟩ := hf
  refine z_iast M hH hS e7 d_M_readNode_148 (fun H locs hH hS => ?_)
  refine lv_aload_n M.x M.b d_M_readNode_149 rfl (lv_at hl 0 rfl) ?_
  replace hf := z_bind hf; obtain ⟨r9, e10, hf⟩ := hf
  refine z_get (ci := 8) (k := 11) M hH rfl (by decide) zinM q_641 (gA_spec e10) d_M_readNode_150 ?_
  refine lv_aload_n M.x M.b d_M_readNode_153 rfl (lv_at hl 0 rfl) ?_
  replace hf := z_bind hf; obtain ⟨i11, e12, hf⟩ := hf
  refine z_get (ci := 8) (k := 12) M hH rfl (by decide) zinM q_640 (gI_spec e12) d_M_readNode_154 ?_
  refine lv_iconst (v := (0 : Int32)) M.x M.b d_M_readNode_157 rfl ?_
  rcases r9 with _ | a13
  · exact absurd hf z_nb0
  replace hf := z_sb hf
  replace hf := z_bind hf; obtain ⟨h16, e15, hf⟩ := hf
  refine z_zast M hH hS e15 d_M_readNode_158 (fun H locs hH hS => ?_)
  refine lv_aload_n M.x M.b d_M_readNode_159 rfl (lv_at hl 0 rfl) ?_
  refine lv_dup M.x M.b d_M_readNode_160 rfl ?_
  replace hf := z_bind hf; obtain ⟨i17, e18, hf⟩ := hf
  refine z_get (ci := 8) (k := 12) M hH rfl (by decide) zinM q_640 (gI_spec e18) d_M_readNode_161 ?_
  refine lv_iconst (v := (1 : Int32)) M.x M.b d_M_readNode_164 rfl ?_
  refine lv_iadd M.x M.b d_M_readNode_165 ?_
  replace hf := z_bind hf; obtain ⟨h19, e20, hf⟩ := hf
  refine z_put (ci := 8) (k := 12) M hH hS rfl (by decide) zinM zYM zYM_ok zNM_ok rfl q_640 rfl rfl rfl e20 d_M_readNode_166 (fun H locs hH hS => ?_)
  refine lv_iload_n M.x M.b d_M_readNode_169 rfl (lv_at hl 1 rfl) ?_
  replace hf := z_bind hf; obtain ⟨i22, e21, hf⟩ := hf
  refine zk_S (st1 := [.int i22]) M hH hS (c_M_isTwo e21) w_M_isTwo q_639 [] rfl ⟨Nat.le_of_ble_eq_true rfl, Nat.le_of_ble_eq_true rfl⟩ hl.1 rfl rfl (Nat.le_of_ble_eq_true rfl) d_M_readNode_170 (fun H locs hH hS => ?_)
  refine lv_if_eq (tgt := 185) M.x M.b d_M_readNode_173 (by decide) (fun c26 => ?_) (fun c26 => ?_)
  · replace hf := z_t c26 hf
    refine lv_iconst (v := (0 : Int32)) M.x M.b d_M_readNode_185 rfl ?_
    obtain ⟨rfl, rfl⟩ := z_r2 hf
    exact z_iret M hH hS d_M_readNode_186
  · replace hf := z_f c26 hf
    refine lv_aload_n M.x M.b d_M_readNode_176 rfl (lv_at hl 0 rfl) ?_
    refine lv_bipush (v := (40 : Int32)) M.x M.b d_M_readNode_177 rfl ?_
    replace hf := z_bind2 hf; obtain ⟨i24, h25, e23, hf⟩ := hf
    refine zk_V (ci := 8) (st1 := [.int i24]) M hH hS (c_M_sign e23) rfl (o_M_sign e23) w_M_sign q_638 [] rfl ⟨Nat.le_of_ble_eq_true rfl, Nat.le_of_ble_eq_true rfl⟩ hl.1 rfl rfl (Nat.le_of_ble_eq_true rfl) d_M_readNode_179 (fun H locs hH hS => ?_)
    refine lv_goto (tgt := 186) M.x M.b d_M_readNode_182 (by decide) ?_
    obtain ⟨rfl, rfl⟩ := z_r2 hf
    exact z_iret M hH hS d_M_readNode_186
def f_M_readNode_125 (this : Nat) (x2 : Int32) (x3 : Int32) (h : Hp) : Option ((Int32 × Hp)) :=
  (f_M_isTwo x2).bind fun i28 =>
  if i28 = 0 then
    (f_M_isOne x2).bind fun i30 =>
    if i30 = 0 then
      some ((0 : Int32), h)
    else
    f_M_readNode_139 this x2 x3 h
  else
  f_M_readNode_139 this x2 x3 h
set_option maxRecDepth 100000 in
set_option maxHeartbeats 4000000 in
theorem w_M_readNode_125 {p : Program} {l : Launch} {e : Env} {s : State} {m : MethodId} {args : Array Value} {below : List Frame} {meth : Method} {c : Code} {N0 : Nat} {D : va_G} {cs : Nat → ClassId} (M : ZC p s m args meth c "YearBasketsModel" "readNode" b_M_readNode 5 (some .int) N0 D cs) (this : Nat)  {r0 : Int32} {h0 : Hp}  (x2 : Int32) (x3 : Int32) (h : Hp) (hf : f_M_readNode_125 this x2 x3 h = some (r0, h0)) : ZG p l e (zrm 3 0 0) s m args below meth c N0 D cs (some (.int r0)) h0 h 5 [(0, .ref this), (2, .int x2), (3, .int x3)] 125 [] := by
  intro H locs ls hH hS hl
  unfold f_M_readNode_125 at hf
  refine lv_iload_n M.x M.b d_M_readNode_125 rfl (lv_at hl 1 rfl) ?_
  replace hf := z_bind hf; obtain ⟨i28, e27, hf⟩ := hf
  refine zk_S (st1 := [.int i28]) M hH hS (c_M_isTwo e27) w_M_isTwo q_639 [] rfl ⟨Nat.le_of_ble_eq_true rfl, Nat.le_of_ble_eq_true rfl⟩ hl.1 rfl rfl (Nat.le_of_ble_eq_true rfl) d_M_readNode_126 (fun H locs hH hS => ?_)
  refine lv_if_ne (tgt := 139) M.x M.b d_M_readNode_129 (by decide) (fun c32 => ?_) (fun c32 => ?_)
  · replace hf := z_f c32 hf
    exact w_M_readNode_139 M this _ _ _ hf H locs ls hH hS (lv_sub hl [0, 1, 2] rfl)
  · replace hf := z_t c32 hf
    refine lv_iload_n M.x M.b d_M_readNode_132 rfl (lv_at hl 1 rfl) ?_
    replace hf := z_bind hf; obtain ⟨i30, e29, hf⟩ := hf
    refine zk_S (st1 := [.int i30]) M hH hS (c_M_isOne e29) w_M_isOne q_643 [] rfl ⟨Nat.le_of_ble_eq_true rfl, Nat.le_of_ble_eq_true rfl⟩ hl.1 rfl rfl (Nat.le_of_ble_eq_true rfl) d_M_readNode_133 (fun H locs hH hS => ?_)
    refine lv_if_eq (tgt := 187) M.x M.b d_M_readNode_136 (by decide) (fun c31 => ?_) (fun c31 => ?_)
    · replace hf := z_t c31 hf
      refine lv_iconst (v := (0 : Int32)) M.x M.b d_M_readNode_187 rfl ?_
      obtain ⟨rfl, rfl⟩ := z_r2 hf
      exact z_iret M hH hS d_M_readNode_188
    · replace hf := z_f c31 hf
      exact w_M_readNode_139 M this _ _ _ hf H locs ls hH hS (lv_sub hl [0, 1, 2] rfl)
def f_M_readNode_28 (this : Nat) (s1 : Int32) (h : Hp) : Option ((Int32 × Hp)) :=
  (gI h this 8 8).bind fun i33 =>
  zb2 (f_M_fails this s1 i33 h) fun i36 h37 =>
  some (i36, h37)
set_option maxRecDepth 100000 in
set_option maxHeartbeats 4000000 in
theorem w_M_readNode_28 {p : Program} {l : Launch} {e : Env} {s : State} {m : MethodId} {args : Array Value} {below : List Frame} {meth : Method} {c : Code} {N0 : Nat} {D : va_G} {cs : Nat → ClassId} (M : ZC p s m args meth c "YearBasketsModel" "readNode" b_M_readNode 5 (some .int) N0 D cs) (this : Nat)  {r0 : Int32} {h0 : Hp}  (s1 : Int32) (h : Hp) (hf : f_M_readNode_28 this s1 h = some (r0, h0)) : ZG p l e (zrm 3 0 0) s m args below meth c N0 D cs (some (.int r0)) h0 h 5 [(0, .ref this)] 28 [.int s1, .ref this] := by
  intro H locs ls hH hS hl
  unfold f_M_readNode_28 at hf
  refine lv_aload_n M.x M.b d_M_readNode_28 rfl (lv_at hl 0 rfl) ?_
  replace hf := z_bind hf; obtain ⟨i33, e34, hf⟩ := hf
  refine z_get (ci := 8) (k := 8) M hH rfl (by decide) zinM q_608 (gI_spec e34) d_M_readNode_29 ?_
  replace hf := z_bind2 hf; obtain ⟨i36, h37, e35, hf⟩ := hf
  refine zk_V (ci := 8) (st1 := [.int i36]) M hH hS (c_M_fails e35) rfl (o_M_fails e35) w_M_fails q_616 [] rfl ⟨Nat.le_of_ble_eq_true rfl, Nat.le_of_ble_eq_true rfl⟩ hl.1 rfl rfl (Nat.le_of_ble_eq_true rfl) d_M_readNode_32 (fun H locs hH hS => ?_)
  obtain ⟨rfl, rfl⟩ := z_r2 hf
  exact z_iret M hH hS d_M_readNode_35
def f_M_readNode_18 (this : Nat) (x2 : Int32) (h : Hp) : Option ((Int32 × Hp)) :=
  if 0 ≤ x2 then
    f_M_readNode_28 this (2 : Int32) h
  else
  f_M_readNode_28 this (1 : Int32) h
set_option maxRecDepth 100000 in
set_option maxHeartbeats 4000000 in
theorem w_M_readNode_18 {p : Program} {l : Launch} {e : Env} {s : State} {m : MethodId} {args : Array Value} {below : List Frame} {meth : Method} {c : Code} {N0 : Nat} {D : va_G} {cs : Nat → ClassId} (M : ZC p s m args meth c "YearBasketsModel" "readNode" b_M_readNode 5 (some .int) N0 D cs) (this : Nat)  {r0 : Int32} {h0 : Hp}  (x2 : Int32) (h : Hp) (hf : f_M_readNode_18 this x2 h = some (r0, h0)) : ZG p l e (zrm 3 0 0) s m args below meth c N0 D cs (some (.int r0)) h0 h 5 [(0, .ref this), (2, .int x2)] 18 [] := by
  intro H locs ls hH hS hl
  unfold f_M_readNode_18 at hf
  refine lv_aload_n M.x M.b d_M_readNode_18 rfl (lv_at hl 0 rfl) ?_
  refine lv_iload_n M.x M.b d_M_readNode_19 rfl (lv_at hl 1 rfl) ?_
  refine lv_if_ge (tgt := 27) M.x M.b d_M_readNode_20 (by decide) (fun c38 => ?_) (fun c38 => ?_)
  · replace hf := z_t c38 hf
    refine lv_iconst (v := (2 : Int32)) M.x M.b d_M_readNode_27 rfl ?_
    exact w_M_readNode_28 M this _ _ hf H locs ls hH hS (lv_sub hl [0] rfl)
  · replace hf := z_f c38 hf
    refine lv_iconst (v := (1 : Int32)) M.x M.b d_M_readNode_23 rfl ?_
    refine lv_goto (tgt := 28) M.x M.b d_M_readNode_24 (by decide) ?_
    exact w_M_readNode_28 M this _ _ hf H locs ls hH hS (lv_sub hl [0] rfl)
def f_M_readNode (this : Nat) (x1 : Int32) (h : Hp) : Option ((Int32 × Hp)) :=
  if isO h this 8 = true then
  zb2 (f_M_readKind this h) fun i40 h41 =>
  if i40 < 0 then
    f_M_readNode_18 this i40 h41
  else
  (gI h41 this 8 12).bind fun i42 =>
  if i42 = (8 : Int32) then
    f_M_readNode_18 this i40 h41
  else
  (gI h41 this 8 13).bind fun i44 =>
  (gI h41 this 8 13).bind fun i46 =>
  (pV h41 this 8 13 (.int (i46 + (1 : Int32)))).bind fun h48 =>
  (gA h48 this 8 3).bind fun r50 =>
  (r50).bind fun a52 =>
  (sI h48 a52 (x1 + i44) i40).bind fun h55 =>
  (gI h55 this 8 9).bind fun i56 =>
  (pV h55 this 8 8 (.int i56)).bind fun h58 =>
  if i40 = (3 : Int32) then
    zb2 (f_M_here this h58) fun i61 h62 =>
    (f_M_in (i61).toInt64 (48 : Int64) (55 : Int64)).bind fun i64 =>
    if i64 = 0 then
      (gI h62 this 8 8).bind fun i75 =>
      zb2 (f_M_fails this (1 : Int32) i75 h62) fun i78 h79 =>
      some (i78, h79)
    else
    (gA h62 this 8 4).bind fun r65 =>
    (r65).bind fun a67 =>
    (sI h62 a67 (x1 + i44) (i61 - (48 : Int32))).bind fun h70 =>
    (gI h70 this 8 8).bind fun i71 =>
    (pV h70 this 8 8 (.int (i71 + (1 : Int32)))).bind fun h73 =>
    f_M_readNode_125 this i40 (x1 + i44) h73
  else
  f_M_readNode_125 this i40 (x1 + i44) h58
  else none
theorem o_M_readNode {this : Nat} {x1 : Int32} {h : Hp} {r0 : Int32} {h0 : Hp} (hf : f_M_readNode this x1 h = some (r0, h0)) : isO h this 8 = true := by
  unfold f_M_readNode at hf
  exact (z_gd hf).1
set_option maxRecDepth 100000 in
set_option maxHeartbeats 4000000 in
theorem c_M_readNode {l : Launch} {N0 : Nat} {D : va_G} {cs : Nat → ClassId} {this : Nat} {x1 : Int32} {h : Hp} {r0 : Int32} {h0 : Hp} (hf : f_M_readNode this x1 h = some (r0, h0)) : Fn l N0 D cs y_M_readNode b_M_readNode 5 (some .int) 3 0 0 [.ref this, .int x1] h (some (.int r0)) h0 := by
  refine z_start (by decide) (Nat.le_of_ble_eq_true rfl) ?_
  intro p e s m args below meth c M hH hS ls hl
  unfold f_M_readNode at hf
  obtain ⟨hO, hf⟩ := z_gd hf
  have hl : lv_has ls 5 [(0, .ref this), (1, .int x1)] := hl
  obtain ⟨H, hHe⟩ : ∃ H, H = s.heap := ⟨_, rfl⟩
  obtain ⟨locs, hLe⟩ : ∃ locs : List Loc, locs = [] := ⟨_, rfl⟩
  have hS : va_S (zA N0) s.heap H locs := by rw [hHe, hLe]; exact hS
  have hH : HH N0 D cs h H := by rw [hHe]; exact hH
  suffices hg : W p l e (zrm 3 0 0) s m args below meth c H locs 0 0 (MQ below (zQ N0 D cs (some (.int r0)) h0) args s 0 0 (zA N0)) (F0 m 0 ls []) by rw [hHe, hLe] at hg; exact hg
  clear hHe hLe
  refine lv_aload_n M.x M.b d_M_readNode_0 rfl (lv_at hl 0 rfl) ?_
  replace hf := z_bind2 hf; obtain ⟨i40, h41, e39, hf⟩ := hf
  refine zk_V (ci := 8) (st1 := [.int i40]) M hH hS (c_M_readKind e39) rfl (o_M_readKind e39) w_M_readKind q_649 [] rfl ⟨Nat.le_of_ble_eq_true rfl, Nat.le_of_ble_eq_true rfl⟩ hl.1 rfl rfl (Nat.le_of_ble_eq_true rfl) d_M_readNode_1 (fun H locs hH hS => ?_)
  refine lv_istore_n (lv' := [(2, .int i40), (0, .ref this), (1, .int x1)]) M.x M.b d_M_readNode_4 rfl hl (by decide) rfl (fun ls hl => ?_)
  refine lv_iload_n M.x M.b d_M_readNode_5 rfl (lv_at hl 0 rfl) ?_
  refine lv_if_lt (tgt := 18) M.x M.b d_M_readNode_6 (by decide) (fun c83 => ?_) (fun c83 => ?_)
  · replace hf := z_t c83 hf
    exact w_M_readNode_18 M this _ _ hf H locs ls hH hS (lv_sub hl [1, 0] rfl)
  · replace hf := z_f c83 hf
    refine lv_aload_n M.x M.b d_M_readNode_9 rfl (lv_at hl 1 rfl) ?_
    replace hf := z_bind hf; obtain ⟨i42, e43, hf⟩ := hf
    refine z_get (ci := 8) (k := 12) M hH rfl (by decide) zinM q_640 (gI_spec e43) d_M_readNode_10 ?_
    refine lv_bipush (v := (8 : Int32)) M.x M.b d_M_readNode_13 rfl ?_
    refine lv_icmp_ne (tgt := 36) M.x M.b d_M_readNode_15 (by decide) (fun c82 => ?_) (fun c82 => ?_)
    · replace hf := z_f c82 hf
      refine lv_iload_n M.x M.b d_M_readNode_36 rfl (lv_at hl 2 rfl) ?_
      refine lv_aload_n M.x M.b d_M_readNode_37 rfl (lv_at hl 1 rfl) ?_
      replace hf := z_bind hf; obtain ⟨i44, e45, hf⟩ := hf
      refine z_get (ci := 8) (k := 13) M hH rfl (by decide) zinM q_648 (gI_spec e45) d_M_readNode_38 ?_
      refine lv_iadd M.x M.b d_M_readNode_41 ?_
      refine lv_istore_n (lv' := [(3, .int (x1 + i44)), (2, .int i40), (0, .ref this), (1, .int x1)]) M.x M.b d_M_readNode_42 rfl hl (by decide) rfl (fun ls hl => ?_)
      refine lv_aload_n M.x M.b d_M_readNode_43 rfl (lv_at hl 2 rfl) ?_
      refine lv_dup M.x M.b d_M_readNode_44 rfl ?_
      replace hf := z_bind hf; obtain ⟨i46, e47, hf⟩ := hf
      refine z_get (ci := 8) (k := 13) M hH rfl (by decide) zinM q_648 (gI_spec e47) d_M_readNode_45 ?_
      refine lv_iconst (v := (1 : Int32)) M.x M.b d_M_readNode_48 rfl ?_
      refine lv_iadd M.x M.b d_M_readNode_49 ?_
      replace hf := z_bind hf; obtain ⟨h48, e49, hf⟩ := hf
      refine z_put (ci := 8) (k := 13) M hH hS rfl (by decide) zinM zYM zYM_ok zNM_ok rfl q_648 rfl rfl rfl e49 d_M_readNode_50 (fun H locs hH hS => ?_)
      refine lv_aload_n M.x M.b d_M_readNode_53 rfl (lv_at hl 2 rfl) ?_
      replace hf := z_bind hf; obtain ⟨r50, e51, hf⟩ := hf
      refine z_get (ci := 8) (k := 3) M hH rfl (by decide) zinM q_647 (gA_spec e51) d_M_readNode_54 ?_
      refine lv_iload_n M.x M.b d_M_readNode_57 rfl (lv_at hl 0 rfl) ?_
      refine lv_iload_n M.x M.b d_M_readNode_58 rfl (lv_at hl 1 rfl) ?_
      rcases r50 with _ | a52
      · exact absurd hf z_nb0
      replace hf := z_sb hf
      replace hf := z_bind hf; obtain ⟨h55, e54, hf⟩ := hf
      refine z_iast M hH hS e54 d_M_readNode_59 (fun H locs hH hS => ?_)
      refine lv_aload_n M.x M.b d_M_readNode_60 rfl (lv_at hl 2 rfl) ?_
      refine lv_aload_n M.x M.b d_M_readNode_61 rfl (lv_at hl 2 rfl) ?_
      replace hf := z_bind hf; obtain ⟨i56, e57, hf⟩ := hf
      refine z_get (ci := 8) (k := 9) M hH rfl (by decide) zinM q_626 (gI_spec e57) d_M_readNode_62 ?_
      replace hf := z_bind hf; obtain ⟨h58, e59, hf⟩ := hf
      refine z_put (ci := 8) (k := 8) M hH hS rfl (by decide) zinM zYM zYM_ok zNM_ok rfl q_608 rfl rfl rfl e59 d_M_readNode_65 (fun H locs hH hS => ?_)
      refine lv_iload_n M.x M.b d_M_readNode_68 rfl (lv_at hl 1 rfl) ?_
      refine lv_iconst (v := (3 : Int32)) M.x M.b d_M_readNode_69 rfl ?_
      refine lv_icmp_ne (tgt := 125) M.x M.b d_M_readNode_70 (by decide) (fun c81 => ?_) (fun c81 => ?_)
      · replace hf := z_f c81 hf
        exact w_M_readNode_125 M this _ _ _ hf H locs ls hH hS (lv_sub hl [2, 1, 0] rfl)
      · replace hf := z_t c81 hf
        refine lv_aload_n M.x M.b d_M_readNode_73 rfl (lv_at hl 2 rfl) ?_
        replace hf := z_bind2 hf; obtain ⟨i61, h62, e60, hf⟩ := hf
        refine zk_V (ci := 8) (st1 := [.int i61]) M hH hS (c_M_here e60) rfl (o_M_here e60) w_M_here q_617 [] rfl ⟨Nat.le_of_ble_eq_true rfl, Nat.le_of_ble_eq_true rfl⟩ hl.1 rfl rfl (Nat.le_of_ble_eq_true rfl) d_M_readNode_74 (fun H locs hH hS => ?_)
        refine lv_istore (lv' := [(4, .int i61), (3, .int (x1 + i44)), (2, .int i40), (0, .ref this), (1, .int x1)]) M.x M.b d_M_readNode_77 hl (by decide) rfl (fun ls hl => ?_)
        refine lv_iload M.x M.b d_M_readNode_79 (lv_at hl 0 rfl) ?_
        refine lv_i2l M.x M.b d_M_readNode_81 rfl ?_
        refine z_ldc2 (v := (48 : Int64)) M q_644 d_M_readNode_82 ?_
        refine z_ldc2 (v := (55 : Int64)) M q_645 d_M_readNode_85 ?_
        replace hf := z_bind hf; obtain ⟨i64, e63, hf⟩ := hf
        refine zk_S (st1 := [.int i64]) M hH hS (c_M_in e63) w_M_in q_551 [] rfl ⟨Nat.le_of_ble_eq_true rfl, Nat.le_of_ble_eq_true rfl⟩ hl.1 rfl rfl (Nat.le_of_ble_eq_true rfl) d_M_readNode_88 (fun H locs hH hS => ?_)
        refine lv_if_ne (tgt := 104) M.x M.b d_M_readNode_91 (by decide) (fun c80 => ?_) (fun c80 => ?_)
        · replace hf := z_f c80 hf
          refine lv_aload_n M.x M.b d_M_readNode_104 rfl (lv_at hl 3 rfl) ?_
          replace hf := z_bind hf; obtain ⟨r65, e66, hf⟩ := hf
          refine z_get (ci := 8) (k := 4) M hH rfl (by decide) zinM q_646 (gA_spec e66) d_M_readNode_105 ?_
          refine lv_iload_n M.x M.b d_M_readNode_108 rfl (lv_at hl 1 rfl) ?_
          refine lv_iload M.x M.b d_M_readNode_109 (lv_at hl 0 rfl) ?_
          refine lv_bipush (v := (48 : Int32)) M.x M.b d_M_readNode_111 rfl ?_
          refine lv_isub M.x M.b d_M_readNode_113 ?_
          rcases r65 with _ | a67
          · exact absurd hf z_nb0
          replace hf := z_sb hf
          replace hf := z_bind hf; obtain ⟨h70, e69, hf⟩ := hf
          refine z_iast M hH hS e69 d_M_readNode_114 (fun H locs hH hS => ?_)
          refine lv_aload_n M.x M.b d_M_readNode_115 rfl (lv_at hl 3 rfl) ?_
          refine lv_dup M.x M.b d_M_readNode_116 rfl ?_
          replace hf := z_bind hf; obtain ⟨i71, e72, hf⟩ := hf
          refine z_get (ci := 8) (k := 8) M hH rfl (by decide) zinM q_608 (gI_spec e72) d_M_readNode_117 ?_
          refine lv_iconst (v := (1 : Int32)) M.x M.b d_M_readNode_120 rfl ?_
          refine lv_iadd M.x M.b d_M_readNode_121 ?_
          replace hf := z_bind hf; obtain ⟨h73, e74, hf⟩ := hf
          refine z_put (ci := 8) (k := 8) M hH hS rfl (by decide) zinM zYM zYM_ok zNM_ok rfl q_608 rfl rfl rfl e74 d_M_readNode_122 (fun H locs hH hS => ?_)
          exact w_M_readNode_125 M this _ _ _ hf H locs ls hH hS (lv_sub hl [3, 2, 1] rfl)
        · replace hf := z_t c80 hf
          refine lv_aload_n M.x M.b d_M_readNode_94 rfl (lv_at hl 3 rfl) ?_
          refine lv_iconst (v := (1 : Int32)) M.x M.b d_M_readNode_95 rfl ?_
          refine lv_aload_n M.x M.b d_M_readNode_96 rfl (lv_at hl 3 rfl) ?_
          replace hf := z_bind hf; obtain ⟨i75, e76, hf⟩ := hf
          refine z_get (ci := 8) (k := 8) M hH rfl (by decide) zinM q_608 (gI_spec e76) d_M_readNode_97 ?_
          replace hf := z_bind2 hf; obtain ⟨i78, h79, e77, hf⟩ := hf
          refine zk_V (ci := 8) (st1 := [.int i78]) M hH hS (c_M_fails e77) rfl (o_M_fails e77) w_M_fails q_616 [] rfl ⟨Nat.le_of_ble_eq_true rfl, Nat.le_of_ble_eq_true rfl⟩ hl.1 rfl rfl (Nat.le_of_ble_eq_true rfl) d_M_readNode_100 (fun H locs hH hS => ?_)
          obtain ⟨rfl, rfl⟩ := z_r2 hf
          exact z_iret M hH hS d_M_readNode_103
    · replace hf := z_t c82 hf
      exact w_M_readNode_18 M this _ _ hf H locs ls hH hS (lv_sub hl [1, 0] rfl)
