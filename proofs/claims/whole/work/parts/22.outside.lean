/-! WHAT LIES OUTSIDE, AND THE CLAIM OUT OF A RUN OF THE LAW -/
def lw_flat : List Cond := flatC (Cond.and given_1 narrow_1)
def tb_at (t : Term) (ty : FieldType) (xs : List Int32) : List Cond := .arrayOf t ty :: .eq (.length t) (.int (Int32.ofNat xs.length)) :: (List.range xs.length).map (fun j => .eq (.elem t (.int (Int32.ofNat j))) (.int (xs.getD j 0)))
theorem tb_at_ev {args : Array Value} {s : State} {t : Term} {ty : FieldType} {xs : List Int32} {A : Nat → Prop} (h : ∀ w ∈ tb_at t ty xs, w.before args s = true) (hN : xs.length < 2 ^ 31) (hA : ∀ a : Nat, a < s.heap.size → ¬ A a) : ∃ a : Nat, t.eval args s none [] s = some (.ref a) ∧ va_T ty a xs.length (fun j => .int (xs.getD j 0)) A s s.heap :=
  va_Tof hN (h _ List.mem_cons_self) (va_eqt (h _ (List.mem_cons_of_mem _ List.mem_cons_self))) (fun j hj => va_eqt (h _ (List.mem_cons_of_mem _ (List.mem_cons_of_mem _ (List.mem_map_of_mem (f := fun j => Cond.eq (.elem t (.int (Int32.ofNat j))) (.int (xs.getD j 0))) (List.mem_range.mpr hj)))))) hA
def tb_xs0 : List Int32 := [0, 0, 7, 0, 0, 0, 0, 0, 0, 0, 0, 0, 0, 1, 512, 0, 1, 512, 0, 0, 0, 0, 0, 0, 0, 0, 9, 0, 0, 0, 0, 0, 0, 0, 0, 0, 0, 0, 0, 0, 0, 0, 0, 0, 0, 0, 0, 0, 0, -4096, 4096, 0, -4096, 4096, 0, 0, 0, 0, 0, 0, 1, 1, 12, 0, 0, 0, 0, 0, 0, 0, 0, 0, 0, 0, 3, 1, 1, 10, 1, 1, 10, 0, 0, 3, 0, 0, 7, 0, 0, 0, 0, 0, 0, 0, 0, 0, 0, -4096, 4096, 0, -4096, 4096, 0, 0, 0, 0, 0, 0, 0, 0, 0, 0, 0, 0, 0, 0, 0, 0, 0, 0, 0, 0, 0, 0, 0, 0, 0, 0, 0, 0, 0, 0, 0, 0, 9, 0, 0, 0, 0, 0, 0, 0, 0, 0, 0, -99, 99, 0, 0, 0, 0, 0, 0, 0, 0, 0, 0, 0, 3, 1, 1, 10, 1, 1, 10, 0, 0, 3, 0, 1, 99, 0, 0, 999, 0, 0, 2, 0, 0, 999, 2, 1, 50, 50, 1, 2048, 0, 0, 3, 0, 0, 1, 2, 1, 50, 50, 1, 2048, 0, 0, 3, 0, 0, 0, 2, 1, 50, 1, 0, 3, -1, -1, 7, 0, 0, 3, 1, 1, 2048, 1, 1, 2048, 1, 1, 200, 0, 0, 0, 1, 1, 2048, 1, 1, 2048, 1, 1, 200, 0, 0, 0, 0, -4096, 4096, 0, -4096, 4096, 1, 1, 200, 0, 0, 0, 8, 1, 1024, 0, 0, 0, 0, 0, 0, 0, 0, 0, 0, 0, 0, 0, 0, 0, 0, 0, 0, 0, 0, 0]
theorem tb_xs0_at : ∀ w ∈ tb_at (.static "LabelHouse$Setter" "RANGES" "[I") .int tb_xs0, w ∈ lw_flat := tb_sub_all (gs := [10, 0, 0, 0, 0, 0, 0, 0, 0, 0, 0, 0, 0, 0, 0, 0, 0, 0, 0, 0, 0, 0, 0, 0, 0, 0, 0, 0, 0, 0, 0, 0, 0, 0, 0, 0, 0, 0, 0, 0, 0, 0, 0, 0, 0, 0, 0, 0, 0, 0, 0, 0, 0, 0, 0, 0, 0, 0, 0, 0, 0, 0, 0, 0, 0, 0, 0, 0, 0, 0, 0, 0, 0, 0, 0, 0, 0, 0, 0, 0, 0, 0, 0, 0, 0, 0, 0, 0, 0, 0, 0, 0, 0, 0, 0, 0, 0, 0, 0, 0, 0, 0, 0, 0, 0, 0, 0, 0, 0, 0, 0, 0, 0, 0, 0, 0, 0, 0, 0, 0, 0, 0, 0, 0, 0, 0, 0, 0, 0, 0, 0, 0, 0, 0, 0, 0, 0, 0, 0, 0, 0, 0, 0, 0, 0, 0, 0, 0, 0, 0, 0, 0, 0, 0, 0, 0, 0, 0, 0, 0, 0, 0, 0, 0, 0, 0, 0, 0, 0, 0, 0, 0, 0, 0, 0, 0, 0, 0, 0, 0, 0, 0, 0, 0, 0, 0, 0, 0, 0, 0, 0, 0, 0, 0, 0, 0, 0, 0, 0, 0, 0, 0, 0, 0, 0, 0, 0, 0, 0, 0, 0, 0, 0, 0, 0, 0, 0, 0, 0, 0, 0, 0, 0, 0, 0, 0, 0, 0, 0, 0, 0, 0, 0, 0, 0, 0, 0, 0, 0, 0, 0, 0, 0, 0, 0, 0, 0, 0, 0, 0, 0, 0, 0, 0, 0, 0, 0, 0, 0, 0, 0, 0, 0, 0, 0, 0, 0, 0, 0, 0, 0, 0, 0, 0, 0, 0, 0, 0]) (by decide +kernel) (by decide +kernel)
def tb_xs1 : List Int32 := [1, 2, 1, 0, 2, 1, 4, 1, 2, 0, 0, 1, 1, 4, 4, 4, 3, 4, 3, 3, 3, 1, 0]
theorem tb_xs1_at : ∀ w ∈ tb_at (.static "LabelHouse$Setter" "HAS" "[I") .int tb_xs1, w ∈ lw_flat := tb_sub_all (gs := [289, 0, 0, 0, 0, 0, 0, 0, 0, 0, 0, 0, 0, 0, 0, 0, 0, 0, 0, 0, 0, 0, 0, 0, 0]) (by decide +kernel) (by decide +kernel)
def tb_xs2 : List Int32 := [0, 8, 1, 2, 3, 4, 5, 6, 7]
theorem tb_xs2_at : ∀ w ∈ tb_at (.static "LabelHouse$Setter" "KINDS" "[I") .int tb_xs2, w ∈ lw_flat := tb_sub_all (gs := [523, 0, 0, 0, 0, 0, 0, 0, 0, 0, 0]) (by decide +kernel) (by decide +kernel)
def tb_xs3 : List Int32 := [212222, 222122, 222221, 121223, 121322, 131222, 122213, 122312, 132212, 221213, 221312, 231212, 112232, 122132, 122231, 113222, 123122, 123221, 223211, 221132, 221231, 213212, 223112, 312131, 311222, 321122, 321221, 312212, 322112, 322211, 212123, 212321, 232121, 111323, 131123, 131321, 112313, 132113, 132311, 211313, 231113, 231311, 112133, 112331, 132131, 113123, 113321, 133121, 313121, 211331, 231131, 213113, 213311, 213131, 311123, 311321, 331121, 312113, 312311, 332111, 314111, 221411, 431111, 111224, 111422, 121124, 121421, 141122, 141221, 112214, 112412, 122114, 122411, 142112, 142211, 241211, 221114, 413111, 241112, 134111, 111242, 121142, 121241, 114212, 124112, 124211, 411212, 421112, 421211, 212141, 214121, 412121, 111143, 111341, 131141, 114113, 114311, 411113, 411311, 113141, 114131, 311141, 411131, 211412, 211214, 211232]
theorem tb_xs3_at : ∀ w ∈ tb_at (.static "LabelHouse$Bars" "SYMBOLS" "[I") .int tb_xs3, w ∈ lw_flat := tb_sub_all (gs := [535, 0, 0, 0, 0, 0, 0, 0, 0, 0, 0, 0, 0, 0, 0, 0, 0, 0, 0, 0, 0, 0, 0, 0, 0, 0, 0, 0, 0, 0, 0, 0, 0, 0, 0, 0, 0, 0, 0, 0, 0, 0, 0, 0, 0, 0, 0, 0, 0, 0, 0, 0, 0, 0, 0, 0, 0, 0, 0, 0, 0, 0, 0, 0, 0, 0, 0, 0, 0, 0, 0, 0, 0, 0, 0, 0, 0, 0, 0, 0, 0, 0, 0, 0, 0, 0, 0, 0, 0, 0, 0, 0, 0, 0, 0, 0, 0, 0, 0, 0, 0, 0, 0, 0, 0, 0, 0, 0]) (by decide +kernel) (by decide +kernel)
def tb_xs4 : List Int32 := [0, 11, 13, 14, 19, 25, 28, 21, 22, 26]
theorem tb_xs4_at : ∀ w ∈ tb_at (.static "LabelHouse$Bars" "FIRSTS" "[I") .int tb_xs4, w ∈ lw_flat := tb_sub_all (gs := [644, 0, 0, 0, 0, 0, 0, 0, 0, 0, 0, 0]) (by decide +kernel) (by decide +kernel)
def tb_xs5 : List Int32 := [1123, 1222, 2212, 1141, 2311, 1321, 4111, 2131, 3121, 2113]
theorem tb_xs5_at : ∀ w ∈ tb_at (.static "LabelHouse$Bars" "TURNED" "[I") .int tb_xs5, w ∈ lw_flat := tb_sub_all (gs := [657, 0, 0, 0, 0, 0, 0, 0, 0, 0, 0, 0]) (by decide +kernel) (by decide +kernel)
def tb_xs6 : List Int32 := [3211, 2221, 2122, 1411, 1132, 1231, 1114, 1312, 1213, 3112]
theorem tb_xs6_at : ∀ w ∈ tb_at (.static "LabelHouse$Bars" "FIGURES" "[I") .int tb_xs6, w ∈ lw_flat := tb_sub_all (gs := [670, 0, 0, 0, 0, 0, 0, 0, 0, 0, 0, 0]) (by decide +kernel) (by decide +kernel)
def tb_xs7 : List Int32 := [1, 2, 0, 1, 1, 1, 1, 4, 4, 4, 4, 3, 4, 4, 5, 5, 5, 5, 5, 5, 5]
theorem tb_xs7_at : ∀ w ∈ tb_at (.static "LabelHouse$Segments" "NEXT" "[I") .int tb_xs7, w ∈ lw_flat := tb_sub_all (gs := [683, 0, 0, 0, 0, 0, 0, 0, 0, 0, 0, 0, 0, 0, 0, 0, 0, 0, 0, 0, 0, 0, 0]) (by decide +kernel) (by decide +kernel)
def tb_xs8 : List Int32 := [0, 0, 0, 1, 1, 2, -1]
theorem tb_xs8_at : ∀ w ∈ tb_at (.static "LabelHouse$Segments" "MODES" "[I") .int tb_xs8, w ∈ lw_flat := tb_sub_all (gs := [707, 0, 0, 0, 0, 0, 0, 0, 0]) (by decide +kernel) (by decide +kernel)
def tb_xs9 : List Int32 := [10, 9, 8, 12, 11, 16, 14, 13, 16]
theorem tb_xs9_at : ∀ w ∈ tb_at (.static "LabelHouse$Segments" "COUNT_BITS" "[I") .int tb_xs9, w ∈ lw_flat := tb_sub_all (gs := [717, 0, 0, 0, 0, 0, 0, 0, 0, 0, 0]) (by decide +kernel) (by decide +kernel)
def tb_xs10 : List Int32 := [3, 4, 3, 5, 6, 8, 0]
theorem tb_xs10_at : ∀ w ∈ tb_at (.static "LabelHouse$Segments" "BITS" "[I") .int tb_xs10, w ∈ lw_flat := tb_sub_all (gs := [729, 0, 0, 0, 0, 0, 0, 0, 0]) (by decide +kernel) (by decide +kernel)
def tb_xs11 : List Int32 := [1, 1, 1, 1, 1, 2, 2, 2, 2, 4, 4, 4, 4, 4, 6, 6, 6, 6, 7, 8, 8, 9, 9, 10, 12, 12, 12, 13, 14, 15, 16, 17, 18, 19, 19, 20, 21, 22, 24, 25, 1, 1, 1, 2, 2, 4, 4, 4, 5, 5, 5, 8, 9, 9, 10, 10, 11, 13, 14, 16, 17, 17, 18, 20, 21, 23, 25, 26, 28, 29, 31, 33, 35, 37, 38, 40, 43, 45, 47, 49, 1, 1, 2, 2, 4, 4, 6, 6, 8, 8, 8, 10, 12, 16, 12, 17, 16, 18, 21, 20, 23, 23, 25, 27, 29, 34, 34, 35, 38, 40, 43, 45, 48, 51, 53, 56, 59, 62, 65, 68, 1, 1, 2, 4, 4, 4, 5, 6, 8, 8, 11, 11, 16, 16, 18, 16, 19, 21, 25, 25, 25, 34, 30, 32, 35, 37, 40, 42, 45, 48, 51, 54, 57, 60, 63, 66, 70, 74, 77, 81]
theorem tb_xs11_at : ∀ w ∈ tb_at (.static "LabelHouse$Blocks" "COUNTS" "[I") .int tb_xs11, w ∈ lw_flat := tb_sub_all (gs := [739, 0, 0, 0, 0, 0, 0, 0, 0, 0, 0, 0, 0, 0, 0, 0, 0, 0, 0, 0, 0, 0, 0, 0, 0, 0, 0, 0, 0, 0, 0, 0, 0, 0, 0, 0, 0, 0, 0, 0, 0, 0, 0, 0, 0, 0, 0, 0, 0, 0, 0, 0, 0, 0, 0, 0, 0, 0, 0, 0, 0, 0, 0, 0, 0, 0, 0, 0, 0, 0, 0, 0, 0, 0, 0, 0, 0, 0, 0, 0, 0, 0, 0, 0, 0, 0, 0, 0, 0, 0, 0, 0, 0, 0, 0, 0, 0, 0, 0, 0, 0, 0, 0, 0, 0, 0, 0, 0, 0, 0, 0, 0, 0, 0, 0, 0, 0, 0, 0, 0, 0, 0, 0, 0, 0, 0, 0, 0, 0, 0, 0, 0, 0, 0, 0, 0, 0, 0, 0, 0, 0, 0, 0, 0, 0, 0, 0, 0, 0, 0, 0, 0, 0, 0, 0, 0, 0, 0, 0, 0, 0, 0]) (by decide +kernel) (by decide +kernel)
def tb_xs12 : List Int32 := [7, 10, 15, 20, 26, 18, 20, 24, 30, 18, 20, 24, 26, 30, 22, 24, 28, 30, 28, 28, 28, 28, 30, 30, 26, 28, 30, 30, 30, 30, 30, 30, 30, 30, 30, 30, 30, 30, 30, 30, 10, 16, 26, 18, 24, 16, 18, 22, 22, 26, 30, 22, 22, 24, 24, 28, 28, 26, 26, 26, 26, 28, 28, 28, 28, 28, 28, 28, 28, 28, 28, 28, 28, 28, 28, 28, 28, 28, 28, 28, 13, 22, 18, 26, 18, 24, 18, 22, 20, 24, 28, 26, 24, 20, 30, 24, 28, 28, 26, 30, 28, 30, 30, 30, 30, 28, 30, 30, 30, 30, 30, 30, 30, 30, 30, 30, 30, 30, 30, 30, 17, 28, 22, 16, 22, 28, 26, 26, 24, 28, 24, 28, 22, 24, 24, 30, 28, 28, 26, 28, 30, 24, 30, 30, 30, 30, 30, 30, 30, 30, 30, 30, 30, 30, 30, 30, 30, 30, 30, 30]
theorem tb_xs12_at : ∀ w ∈ tb_at (.static "LabelHouse$Blocks" "CHECKS" "[I") .int tb_xs12, w ∈ lw_flat := tb_sub_all (gs := [902, 0, 0, 0, 0, 0, 0, 0, 0, 0, 0, 0, 0, 0, 0, 0, 0, 0, 0, 0, 0, 0, 0, 0, 0, 0, 0, 0, 0, 0, 0, 0, 0, 0, 0, 0, 0, 0, 0, 0, 0, 0, 0, 0, 0, 0, 0, 0, 0, 0, 0, 0, 0, 0, 0, 0, 0, 0, 0, 0, 0, 0, 0, 0, 0, 0, 0, 0, 0, 0, 0, 0, 0, 0, 0, 0, 0, 0, 0, 0, 0, 0, 0, 0, 0, 0, 0, 0, 0, 0, 0, 0, 0, 0, 0, 0, 0, 0, 0, 0, 0, 0, 0, 0, 0, 0, 0, 0, 0, 0, 0, 0, 0, 0, 0, 0, 0, 0, 0, 0, 0, 0, 0, 0, 0, 0, 0, 0, 0, 0, 0, 0, 0, 0, 0, 0, 0, 0, 0, 0, 0, 0, 0, 0, 0, 0, 0, 0, 0, 0, 0, 0, 0, 0, 0, 0, 0, 0, 0, 0, 0, 0]) (by decide +kernel) (by decide +kernel)
def tb_xs13 : List Int32 := [1, 0, 0, 1]
theorem tb_xs13_at : ∀ w ∈ tb_at (.static "LabelHouse$Finder" "RIGHT" "[I") .int tb_xs13, w ∈ lw_flat := tb_sub_all (gs := [1065, 0, 0, 0, 0, 0]) (by decide +kernel) (by decide +kernel)
def tb_xs14 : List Int32 := [0, 0, 1, 1]
theorem tb_xs14_at : ∀ w ∈ tb_at (.static "LabelHouse$Finder" "DOWN" "[I") .int tb_xs14, w ∈ lw_flat := tb_sub_all (gs := [1072, 0, 0, 0, 0, 0]) (by decide +kernel) (by decide +kernel)
def tb_by0 : List Int32 := [83, 76, 75, 69, 72, 67, 68, 85, 79, 82, 88, 86, 35, 84, 87, 66, 78, 81, 70, 73, 71, 80, 59]
theorem tb_by0_at : ∀ w ∈ tb_at (.field (.string "LabelHouse$Setter" 91) "java/lang/String" "value" "[B") .byte tb_by0, w ∈ lw_flat := tb_sub_all (gs := [1123, 0, 0, 0, 0, 0, 0, 0, 0, 0, 0, 0, 0, 0, 0, 0, 0, 0, 0, 0, 0, 0, 0, 0, 0]) (by decide +kernel) (by decide +kernel)
theorem tb_by0_w : ∀ w ∈ [Cond.exactly (.string "LabelHouse$Setter" 91) "java/lang/String", Cond.eq (.field (.string "LabelHouse$Setter" 91) "java/lang/String" "coder" "B") (.int 0)], w ∈ lw_flat := tb_sub_all (gs := [1121, 0]) (by decide +kernel) (by decide +kernel)
def tb_by1 : List Int32 := [48, 49, 50, 51, 52, 53, 54, 55, 56, 57, 65, 66, 67, 68, 69, 70, 71, 72, 73, 74, 75, 76, 77, 78, 79, 80, 81, 82, 83, 84, 85, 86, 87, 88, 89, 90, 32, 36, 37, 42, 43, 45, 46, 47, 58]
theorem tb_by1_at : ∀ w ∈ tb_at (.field (.string "LabelHouse$Segments" 42) "java/lang/String" "value" "[B") .byte tb_by1, w ∈ lw_flat := tb_sub_all (gs := [1237, 0, 0, 0, 0, 0, 0, 0, 0, 0, 0, 0, 0, 0, 0, 0, 0, 0, 0, 0, 0, 0, 0, 0, 0, 0, 0, 0, 0, 0, 0, 0, 0, 0, 0, 0, 0, 0, 0, 0, 0, 0, 0, 0, 0, 0, 0]) (by decide +kernel) (by decide +kernel)
theorem tb_by1_w : ∀ w ∈ [Cond.exactly (.string "LabelHouse$Segments" 42) "java/lang/String", Cond.eq (.field (.string "LabelHouse$Segments" 42) "java/lang/String" "coder" "B") (.int 0)], w ∈ lw_flat := tb_sub_all (gs := [1235, 0]) (by decide +kernel) (by decide +kernel)
def tb_xs (j : Nat) : List Int32 := match j with
  | 0 => tb_xs0
  | 1 => tb_xs1
  | 2 => tb_xs2
  | 3 => tb_xs3
  | 4 => tb_xs4
  | 5 => tb_xs5
  | 6 => tb_xs6
  | 7 => tb_xs7
  | 8 => tb_xs8
  | 9 => tb_xs9
  | 10 => tb_xs10
  | 11 => tb_xs11
  | 12 => tb_xs12
  | 13 => tb_xs13
  | 14 => tb_xs14
  | _ => []
def tb_by (j : Nat) : List Int32 := match j with
  | 0 => tb_by0
  | 1 => tb_by1
  | _ => []
/-- what lies outside: kind and length -/
def tb_xk (L a : Nat) : Nat × Nat := if a = 5000000 then (33, L) else if 1000000 ≤ a ∧ a < 1000015 then (33, (tb_xs (a - 1000000)).length) else if 2000000 ≤ a ∧ a < 2000002 then (50, 0) else if 3000000 ≤ a ∧ a < 3000002 then (32, (tb_by (a - 3000000)).length) else (0, 0)
def tb_xi (xs : Nat → Int32) (a j : Nat) : Int32 := if a = 5000000 then xs j else if a < 2000000 then (tb_xs (a - 1000000)).getD j 0 else (tb_by (a - 3000000)).getD j 0
def tb_gl : List (Nat × Nat × Value) := [(19, 38, .int 1), (8, 134, .ref 1000000), (8, 110, .ref 1000001), (8, 225, .ref 1000002), (0, 89, .ref 1000003), (0, 106, .ref 1000004), (0, 109, .ref 1000005), (0, 112, .ref 1000006), (7, 62, .ref 1000007), (7, 69, .ref 1000008), (7, 72, .ref 1000009), (7, 75, .ref 1000010), (1, 47, .ref 1000011), (1, 50, .ref 1000012), (3, 108, .ref 1000013), (3, 111, .ref 1000014)]
theorem tb_gw_ok : ∀ w ∈ [Cond.fieldLink "java/lang/String" 38 "java/lang/String" "COMPACT_STRINGS" "Z", Cond.fieldLink "LabelHouse$Setter" 134 "LabelHouse$Setter" "RANGES" "[I", Cond.fieldLink "LabelHouse$Setter" 110 "LabelHouse$Setter" "HAS" "[I", Cond.fieldLink "LabelHouse$Setter" 225 "LabelHouse$Setter" "KINDS" "[I", Cond.fieldLink "LabelHouse$Bars" 89 "LabelHouse$Bars" "SYMBOLS" "[I", Cond.fieldLink "LabelHouse$Bars" 106 "LabelHouse$Bars" "FIRSTS" "[I", Cond.fieldLink "LabelHouse$Bars" 109 "LabelHouse$Bars" "TURNED" "[I", Cond.fieldLink "LabelHouse$Bars" 112 "LabelHouse$Bars" "FIGURES" "[I", Cond.fieldLink "LabelHouse$Segments" 62 "LabelHouse$Segments" "NEXT" "[I", Cond.fieldLink "LabelHouse$Segments" 69 "LabelHouse$Segments" "MODES" "[I", Cond.fieldLink "LabelHouse$Segments" 72 "LabelHouse$Segments" "COUNT_BITS" "[I", Cond.fieldLink "LabelHouse$Segments" 75 "LabelHouse$Segments" "BITS" "[I", Cond.fieldLink "LabelHouse$Blocks" 47 "LabelHouse$Blocks" "COUNTS" "[I", Cond.fieldLink "LabelHouse$Blocks" 50 "LabelHouse$Blocks" "CHECKS" "[I", Cond.fieldLink "LabelHouse$Finder" 108 "LabelHouse$Finder" "RIGHT" "[I", Cond.fieldLink "LabelHouse$Finder" 111 "LabelHouse$Finder" "DOWN" "[I"], w ∈ tb_WS := tb_mem (gs := [843, 81, 12, 449, 232, 23, 1, 1, 30, 1, 1, 1, 7, 1, 295, 1]) (by decide +kernel) (by decide +kernel) (by decide +kernel)
theorem tb_ls_ok : ∀ w ∈ [Cond.laysStatic "java/lang/String" "COMPACT_STRINGS" "Z", Cond.laysStatic "LabelHouse$Setter" "RANGES" "[I", Cond.laysStatic "LabelHouse$Setter" "HAS" "[I", Cond.laysStatic "LabelHouse$Setter" "KINDS" "[I", Cond.laysStatic "LabelHouse$Bars" "SYMBOLS" "[I", Cond.laysStatic "LabelHouse$Bars" "FIRSTS" "[I", Cond.laysStatic "LabelHouse$Bars" "TURNED" "[I", Cond.laysStatic "LabelHouse$Bars" "FIGURES" "[I", Cond.laysStatic "LabelHouse$Segments" "NEXT" "[I", Cond.laysStatic "LabelHouse$Segments" "MODES" "[I", Cond.laysStatic "LabelHouse$Segments" "COUNT_BITS" "[I", Cond.laysStatic "LabelHouse$Segments" "BITS" "[I", Cond.laysStatic "LabelHouse$Blocks" "COUNTS" "[I", Cond.laysStatic "LabelHouse$Blocks" "CHECKS" "[I", Cond.laysStatic "LabelHouse$Finder" "RIGHT" "[I", Cond.laysStatic "LabelHouse$Finder" "DOWN" "[I"], w ∈ lw_tbl := tb_sub_all (gs := [844, 81, 12, 449, 232, 23, 1, 1, 30, 1, 1, 1, 7, 1, 295, 1]) (by decide +kernel) (by decide +kernel)
theorem tb_cs_ok : Cond.eq (.static "java/lang/String" "COMPACT_STRINGS" "Z") (.int 1) ∈ lw_flat := tb_sub_all (ws := [_]) (gs := [4]) (by decide +kernel) (by decide +kernel) _ List.mem_cons_self
def tb_sl : List (Nat × Nat × Nat) := [(8, 91, 2000000), (7, 42, 2000001)]
theorem tb_sr_ok : ∀ w ∈ [Cond.stringRef "LabelHouse$Setter" 91 "SLKEHCDUORXV#TWBNQFIGP;", Cond.stringRef "LabelHouse$Segments" 42 "0123456789ABCDEFGHIJKLMNOPQRSTUVWXYZ $%*+-./:"], w ∈ lw_tbl := tb_sub_all (gs := [830, 843]) (by decide +kernel) (by decide +kernel)
theorem tb_ff_ok : Cond.fieldLink "java/lang/String" 1053 "jdk/internal/util/Preconditions" "SIOOBE_FORMATTER" "Ljava/util/function/BiFunction;" ∈ tb_WS := tb_mem (ws := [_]) (gs := [886]) (by decide +kernel) (by decide +kernel) (by decide +kernel) _ List.mem_cons_self
def tb_gT (xs : Nat → Int32) (ow k : Nat) : Option Value := if ow = 19 ∧ k = 1053 then some (if xs 1000000000 = 0 then .null else .ref 4000000) else tb_find tb_gl ow k
/-- THE TABLES -/
def tb_G (L : Nat) (xs : Nat → Int32) : im_G := (tb_cl, tb_ty, tb_WS, tb_find tb_fl, tb_find tb_cn, tb_gT xs, tb_xk L, tb_xi xs, tb_find tb_sl, tb_find tb_vl, tb_aT, tb_oT, tb_find tb_nl, tb_T, tb_cal, tb_find tb_ho, tb_nm)
theorem tb_OK (L : Nat) (xs : Nat → Int32) : im_OK (tb_G L xs) := by
  refine ⟨tb_TC, tb_TF, tb_TK, tb_TV, tb_TA, tb_TO, tb_TN, tb_TR, ?_, ?_, tb_good⟩
  · intro j d hj
    exact tb_M_ok d (List.mem_of_getElem? hj)
  · intro ow k j d hc hj h3
    have hc : tb_cal ow k = some j := hc
    have hj : tb_M[j]? = some d := hj
    unfold tb_cal at hc
    cases hf : tb_find tb_lk ow k with
    | some j' =>
      rw [hf] at hc
      cases hc
      have h := tb_lk_ok _ (tb_find_mem hf)
      unfold tb_lw at h
      simp only [hj] at h
      exact h
    | none =>
      rw [hf] at hc
      have h := List.all_eq_true.mp tb_ln_3 _ (tb_find_mem hc)
      simp only [hj, decide_eq_true_eq] at h
      exact absurd h h3
