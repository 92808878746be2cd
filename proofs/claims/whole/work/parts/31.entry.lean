def adr (v : Option Value) : Nat := match v with | some (.ref a) => a | _ => 0
def OPNL : List String := ["CALL", "QUOTE", "IF", "DO", "SET", "WHILE", "FN", "CATCH", "THROW", "CAR", "CDR", "CONS", "RCA", "RCD", "LIST", "ATOM", "EQ", "ADD", "SUBTRACT", "MULTIPLY", "DIVIDE", "LESS", "AND", "OR", "XOR", "SHIFT", "VEC", "REF", "PUT", "LEN", "PRINT", "GET"]
def opT (i : Nat) : Term := .static RX3 (OPNL.getD i "") "LTagMachine$Operator;"
def STRL : List (String × Nat) := [(RX3, 150), (RX3, 156), (RX3, 159), (RX3, 162), (RX3, 166), (RX3, 169), (RX3, 172), (RX3, 175), (RX3, 178), (RX3, 181), (RX3, 184), (RX3, 187), (RX3, 190), (RX3, 193), (RX3, 196), (RX3, 199), (RX3, 202), (RX3, 205), (RX3, 208), (RX3, 211), (RX3, 214), (RX3, 217), (RX3, 220), (RX3, 223), (RX3, 226), (RX3, 229), (RX3, 232), (RX3, 235), (RX3, 238), (RX3, 241), (RX3, 244), (RX3, 247), (RX9, 23), (RX9, 35), (RX9, 37), (RX4, 51), (RX4, 95)]
def stT (i : Nat) : Term := .string (STRL.getD i ("", 0)).1 (STRL.getD i ("", 0)).2
abbrev svT (i : Nat) : Term := .field (stT i) "java/lang/String" "value" "[B"
abbrev allT : Term := .static RX3 "ALL" "[LTagMachine$Operator;"
abbrev swT : Term := .static RX0 "$SwitchMap$TagMachine$Operator" "[I"
def eaT : Nat → Nat → Term
  | 0, i => opT i
  | 1, 0 => allT
  | 1, _ => swT
  | 2, i => stT i
  | 3, i => svT i
  | _, k => .string RX11 k
def eaL (args : Array Value) (s : State) : Nat → Nat → Nat := fun a b => adr ((eaT a b).eval args s none [] s)
theorem subOf {L ws : List Cond} (is : List Nat) (h : is.map (fun i => L[i]?) = ws.map some) : ∀ w ∈ ws, w ∈ L := by
  intro w hw
  have h1 : some w ∈ ws.map some := List.mem_map.mpr ⟨w, hw, rfl⟩
  rw [← h] at h1
  obtain ⟨i, -, hi⟩ := List.mem_map.mp h1
  exact List.mem_of_getElem? hi
def opW (i : Nat) : List Cond := [.eq (.elem allT (.int (nI i))) (opT i), .exactly (opT i) RX3, .eq (.field (opT i) "java/lang/Enum" "ordinal" "I") (.int (nI i)), .eq (.field (opT i) RX3 "text" "Ljava/lang/String;") (stT i), .eq (.field (opT i) RX3 "fewest" "I") (.int (FEWL.getD i 0)), .eq (.field (opT i) RX3 "most" "I") (.int (MOSTL.getD i 0))]
def stW (i : Nat) : List Cond := [.exactly (stT i) "java/lang/String", .eq (.field (stT i) "java/lang/String" "coder" "B") (.int 0), .arrayOf (svT i) .byte, .eq (.length (svT i)) (.int (Int32.ofNat (STL.getD i []).length))] ++ (List.range (STL.getD i []).length).map (fun j => .eq (.elem (svT i) (.int (Int32.ofNat j))) (.int ((STL.getD i []).getD j 0)))
def swW : List Cond := [.arrayOf swT .int, .eq (.length swT) (.int 32), .arrayOf allT (.object RX3), .eq (.length allT) (.int 32), .eq (.static "java/lang/String" "COMPACT_STRINGS" "Z") (.int 1), .isRef (.static "jdk/internal/util/Preconditions" "SIOOBE_FORMATTER" "Ljava/util/function/BiFunction;"), .isRef (.static "java/lang/Throwable" "UNASSIGNED_STACK" "[Ljava/lang/StackTraceElement;"), .isRef (.static "java/lang/Throwable" "SUPPRESSED_SENTINEL" "Ljava/util/List;")] ++ (List.range 32).map (fun j => .eq (.elem swT (.int (Int32.ofNat j))) (.int (SMAP.getD j 0)))
def EXL : List String := ["java/lang/IllegalArgumentException", "java/lang/IllegalStateException", "java/util/NoSuchElementException", "java/lang/UnsupportedOperationException", "java/lang/ArithmeticException", "java/lang/IndexOutOfBoundsException"]
def NCs (U : State) : Prop := ∀ E ∈ EXL, ∀ F ∈ EXL, E ≠ F → va_Nc E F U
def ncW (E : String) : List Cond := (EXL.filter (fun F => decide (F ≠ E))).map (fun F => .not (.castable E F))
theorem nvO_0 : ∀ w ∈ opW 0, w ∈ flatC narrow_1 := subOf [12, 46, 47, 48, 49, 50] (by decide +kernel)
theorem nvO_1 : ∀ w ∈ opW 1, w ∈ flatC narrow_1 := subOf [13, 86, 87, 88, 89, 90] (by decide +kernel)
theorem nvO_2 : ∀ w ∈ opW 2, w ∈ flatC narrow_1 := subOf [14, 91, 92, 93, 94, 95] (by decide +kernel)
theorem nvO_3 : ∀ w ∈ opW 3, w ∈ flatC narrow_1 := subOf [15, 96, 97, 98, 99, 100] (by decide +kernel)
theorem nvO_4 : ∀ w ∈ opW 4, w ∈ flatC narrow_1 := subOf [16, 101, 102, 103, 104, 105] (by decide +kernel)
theorem nvO_5 : ∀ w ∈ opW 5, w ∈ flatC narrow_1 := subOf [17, 106, 107, 108, 109, 110] (by decide +kernel)
theorem nvO_6 : ∀ w ∈ opW 6, w ∈ flatC narrow_1 := subOf [18, 111, 112, 113, 114, 115] (by decide +kernel)
theorem nvO_7 : ∀ w ∈ opW 7, w ∈ flatC narrow_1 := subOf [19, 116, 117, 118, 119, 120] (by decide +kernel)
theorem nvO_8 : ∀ w ∈ opW 8, w ∈ flatC narrow_1 := subOf [20, 121, 122, 123, 124, 125] (by decide +kernel)
theorem nvO_9 : ∀ w ∈ opW 9, w ∈ flatC narrow_1 := subOf [21, 126, 127, 128, 129, 130] (by decide +kernel)
theorem nvO_10 : ∀ w ∈ opW 10, w ∈ flatC narrow_1 := subOf [22, 131, 132, 133, 134, 135] (by decide +kernel)
theorem nvO_11 : ∀ w ∈ opW 11, w ∈ flatC narrow_1 := subOf [23, 136, 137, 138, 139, 140] (by decide +kernel)
theorem nvO_12 : ∀ w ∈ opW 12, w ∈ flatC narrow_1 := subOf [24, 141, 142, 143, 144, 145] (by decide +kernel)
theorem nvO_13 : ∀ w ∈ opW 13, w ∈ flatC narrow_1 := subOf [25, 146, 147, 148, 149, 150] (by decide +kernel)
theorem nvO_14 : ∀ w ∈ opW 14, w ∈ flatC narrow_1 := subOf [26, 151, 152, 153, 154, 155] (by decide +kernel)
theorem nvO_15 : ∀ w ∈ opW 15, w ∈ flatC narrow_1 := subOf [27, 156, 157, 158, 159, 160] (by decide +kernel)
theorem nvO_16 : ∀ w ∈ opW 16, w ∈ flatC narrow_1 := subOf [28, 161, 162, 163, 164, 165] (by decide +kernel)
theorem nvO_17 : ∀ w ∈ opW 17, w ∈ flatC narrow_1 := subOf [29, 166, 167, 168, 169, 170] (by decide +kernel)
theorem nvO_18 : ∀ w ∈ opW 18, w ∈ flatC narrow_1 := subOf [30, 171, 172, 173, 174, 175] (by decide +kernel)
theorem nvO_19 : ∀ w ∈ opW 19, w ∈ flatC narrow_1 := subOf [31, 176, 177, 178, 179, 180] (by decide +kernel)
theorem nvO_20 : ∀ w ∈ opW 20, w ∈ flatC narrow_1 := subOf [32, 181, 182, 183, 184, 185] (by decide +kernel)
theorem nvO_21 : ∀ w ∈ opW 21, w ∈ flatC narrow_1 := subOf [33, 186, 187, 188, 189, 190] (by decide +kernel)
theorem nvO_22 : ∀ w ∈ opW 22, w ∈ flatC narrow_1 := subOf [34, 191, 192, 193, 194, 195] (by decide +kernel)
theorem nvO_23 : ∀ w ∈ opW 23, w ∈ flatC narrow_1 := subOf [35, 196, 197, 198, 199, 200] (by decide +kernel)
theorem nvO_24 : ∀ w ∈ opW 24, w ∈ flatC narrow_1 := subOf [36, 201, 202, 203, 204, 205] (by decide +kernel)
theorem nvO_25 : ∀ w ∈ opW 25, w ∈ flatC narrow_1 := subOf [37, 206, 207, 208, 209, 210] (by decide +kernel)
theorem nvO_26 : ∀ w ∈ opW 26, w ∈ flatC narrow_1 := subOf [38, 211, 212, 213, 214, 215] (by decide +kernel)
theorem nvO_27 : ∀ w ∈ opW 27, w ∈ flatC narrow_1 := subOf [39, 216, 217, 218, 219, 220] (by decide +kernel)
theorem nvO_28 : ∀ w ∈ opW 28, w ∈ flatC narrow_1 := subOf [40, 221, 222, 223, 224, 225] (by decide +kernel)
theorem nvO_29 : ∀ w ∈ opW 29, w ∈ flatC narrow_1 := subOf [41, 226, 227, 228, 229, 230] (by decide +kernel)
theorem nvO_30 : ∀ w ∈ opW 30, w ∈ flatC narrow_1 := subOf [42, 231, 232, 233, 234, 235] (by decide +kernel)
theorem nvO_31 : ∀ w ∈ opW 31, w ∈ flatC narrow_1 := subOf [43, 236, 237, 238, 239, 240] (by decide +kernel)
theorem nvS_0 : ∀ w ∈ stW 0, w ∈ flatC narrow_1 := subOf [710, 711, 712, 713] (by decide +kernel)
theorem nvS_1 : ∀ w ∈ stW 1, w ∈ flatC narrow_1 := subOf [714, 715, 716, 717, 718, 719, 720, 721, 722] (by decide +kernel)
theorem nvS_2 : ∀ w ∈ stW 2, w ∈ flatC narrow_1 := subOf [724, 725, 726, 727, 728, 729] (by decide +kernel)
theorem nvS_3 : ∀ w ∈ stW 3, w ∈ flatC narrow_1 := subOf [730, 731, 732, 733, 734, 735] (by decide +kernel)
theorem nvS_4 : ∀ w ∈ stW 4, w ∈ flatC narrow_1 := subOf [736, 737, 738, 739, 740, 741, 742] (by decide +kernel)
theorem nvS_5 : ∀ w ∈ stW 5, w ∈ flatC narrow_1 := subOf [743, 744, 745, 746, 747, 748, 749, 750, 751] (by decide +kernel)
theorem nvS_6 : ∀ w ∈ stW 6, w ∈ flatC narrow_1 := subOf [752, 753, 754, 755, 756, 757] (by decide +kernel)
theorem nvS_7 : ∀ w ∈ stW 7, w ∈ flatC narrow_1 := subOf [758, 759, 760, 761, 762, 763, 764, 765, 766] (by decide +kernel)
theorem nvS_8 : ∀ w ∈ stW 8, w ∈ flatC narrow_1 := subOf [767, 768, 769, 770, 771, 772, 773, 774, 775] (by decide +kernel)
theorem nvS_9 : ∀ w ∈ stW 9, w ∈ flatC narrow_1 := subOf [776, 777, 778, 779, 780, 781, 782] (by decide +kernel)
theorem nvS_10 : ∀ w ∈ stW 10, w ∈ flatC narrow_1 := subOf [783, 784, 785, 786, 787, 788, 789] (by decide +kernel)
theorem nvS_11 : ∀ w ∈ stW 11, w ∈ flatC narrow_1 := subOf [790, 791, 792, 793, 794, 795, 796, 797] (by decide +kernel)
theorem nvS_12 : ∀ w ∈ stW 12, w ∈ flatC narrow_1 := subOf [798, 799, 800, 801, 802, 803, 804] (by decide +kernel)
theorem nvS_13 : ∀ w ∈ stW 13, w ∈ flatC narrow_1 := subOf [805, 806, 807, 808, 809, 810, 811] (by decide +kernel)
theorem nvS_14 : ∀ w ∈ stW 14, w ∈ flatC narrow_1 := subOf [812, 813, 814, 815, 816, 817, 818, 819] (by decide +kernel)
theorem nvS_15 : ∀ w ∈ stW 15, w ∈ flatC narrow_1 := subOf [820, 821, 822, 823, 824, 825, 826, 827] (by decide +kernel)
theorem nvS_16 : ∀ w ∈ stW 16, w ∈ flatC narrow_1 := subOf [828, 829, 830, 831, 832, 833] (by decide +kernel)
theorem nvS_17 : ∀ w ∈ stW 17, w ∈ flatC narrow_1 := subOf [834, 835, 836, 837, 838] (by decide +kernel)
theorem nvS_18 : ∀ w ∈ stW 18, w ∈ flatC narrow_1 := subOf [839, 840, 841, 842, 843] (by decide +kernel)
theorem nvS_19 : ∀ w ∈ stW 19, w ∈ flatC narrow_1 := subOf [844, 845, 846, 847, 848] (by decide +kernel)
theorem nvS_20 : ∀ w ∈ stW 20, w ∈ flatC narrow_1 := subOf [849, 850, 851, 852, 853] (by decide +kernel)
theorem nvS_21 : ∀ w ∈ stW 21, w ∈ flatC narrow_1 := subOf [854, 855, 856, 857, 858] (by decide +kernel)
theorem nvS_22 : ∀ w ∈ stW 22, w ∈ flatC narrow_1 := subOf [859, 860, 861, 862, 863, 864, 865] (by decide +kernel)
theorem nvS_23 : ∀ w ∈ stW 23, w ∈ flatC narrow_1 := subOf [866, 867, 868, 869, 870, 871] (by decide +kernel)
theorem nvS_24 : ∀ w ∈ stW 24, w ∈ flatC narrow_1 := subOf [872, 873, 874, 875, 876, 877, 878] (by decide +kernel)
theorem nvS_25 : ∀ w ∈ stW 25, w ∈ flatC narrow_1 := subOf [879, 880, 881, 882, 883, 884] (by decide +kernel)
theorem nvS_26 : ∀ w ∈ stW 26, w ∈ flatC narrow_1 := subOf [885, 886, 887, 888, 889, 890, 891] (by decide +kernel)
theorem nvS_27 : ∀ w ∈ stW 27, w ∈ flatC narrow_1 := subOf [892, 893, 894, 895, 896, 897, 898] (by decide +kernel)
theorem nvS_28 : ∀ w ∈ stW 28, w ∈ flatC narrow_1 := subOf [899, 900, 901, 902, 903, 904, 905] (by decide +kernel)
theorem nvS_29 : ∀ w ∈ stW 29, w ∈ flatC narrow_1 := subOf [906, 907, 908, 909, 910, 911, 912] (by decide +kernel)
theorem nvS_30 : ∀ w ∈ stW 30, w ∈ flatC narrow_1 := subOf [913, 914, 915, 916, 917, 918, 919, 920, 921] (by decide +kernel)
theorem nvS_31 : ∀ w ∈ stW 31, w ∈ flatC narrow_1 := subOf [922, 923, 924, 925, 926, 927, 928] (by decide +kernel)
theorem nvS_32 : ∀ w ∈ stW 32, w ∈ flatC narrow_1 := subOf [342, 343, 344, 345, 346] (by decide +kernel)
theorem nvS_33 : ∀ w ∈ stW 33, w ∈ flatC narrow_1 := subOf [347, 348, 349, 350, 351, 352] (by decide +kernel)
theorem nvS_34 : ∀ w ∈ stW 34, w ∈ flatC narrow_1 := subOf [353, 354, 355, 356, 357, 358, 359, 360, 361] (by decide +kernel)
theorem nvS_35 : ∀ w ∈ stW 35, w ∈ flatC narrow_1 := subOf [412, 413, 414, 415, 416, 417, 418] (by decide +kernel)
theorem nvS_36 : ∀ w ∈ stW 36, w ∈ flatC narrow_1 := subOf [405, 406, 407, 408, 409, 410, 411] (by decide +kernel)
theorem nvW : ∀ w ∈ swW, w ∈ flatC narrow_1 := subOf [52, 53, 9, 10, 2, 3, 44, 45, 54, 55, 56, 57, 58, 59, 60, 61, 62, 63, 64, 65, 66, 67, 68, 69, 70, 71, 72, 73, 74, 75, 76, 77, 78, 79, 80, 81, 82, 83, 84, 85] (by decide +kernel)
theorem nvC_0 : ∀ w ∈ ncW "java/lang/IllegalArgumentException", w ∈ flatC narrow_1 := subOf [271, 288, 305, 321, 338] (by decide +kernel)
theorem nvC_1 : ∀ w ∈ ncW "java/lang/IllegalStateException", w ∈ flatC narrow_1 := subOf [254, 289, 306, 322, 339] (by decide +kernel)
theorem nvC_2 : ∀ w ∈ ncW "java/util/NoSuchElementException", w ∈ flatC narrow_1 := subOf [255, 272, 307, 323, 340] (by decide +kernel)
theorem nvC_3 : ∀ w ∈ ncW "java/lang/UnsupportedOperationException", w ∈ flatC narrow_1 := subOf [256, 273, 290, 324, 341] (by decide +kernel)
theorem nvC_4 : ∀ w ∈ ncW "java/lang/ArithmeticException", w ∈ flatC narrow_1 := subOf [252, 269, 286, 303, 337] (by decide +kernel)
theorem nvC_5 : ∀ w ∈ ncW "java/lang/IndexOutOfBoundsException", w ∈ flatC narrow_1 := subOf [257, 274, 291, 308, 325] (by decide +kernel)
theorem nvO (i : Nat) (h : i < 32) : ∀ w ∈ opW i, w ∈ flatC narrow_1 := by
  match i, h with
  | 0, _ => exact nvO_0
  | 1, _ => exact nvO_1
  | 2, _ => exact nvO_2
  | 3, _ => exact nvO_3
  | 4, _ => exact nvO_4
  | 5, _ => exact nvO_5
  | 6, _ => exact nvO_6
  | 7, _ => exact nvO_7
  | 8, _ => exact nvO_8
  | 9, _ => exact nvO_9
  | 10, _ => exact nvO_10
  | 11, _ => exact nvO_11
  | 12, _ => exact nvO_12
  | 13, _ => exact nvO_13
  | 14, _ => exact nvO_14
  | 15, _ => exact nvO_15
  | 16, _ => exact nvO_16
  | 17, _ => exact nvO_17
  | 18, _ => exact nvO_18
  | 19, _ => exact nvO_19
  | 20, _ => exact nvO_20
  | 21, _ => exact nvO_21
  | 22, _ => exact nvO_22
  | 23, _ => exact nvO_23
  | 24, _ => exact nvO_24
  | 25, _ => exact nvO_25
  | 26, _ => exact nvO_26
  | 27, _ => exact nvO_27
  | 28, _ => exact nvO_28
  | 29, _ => exact nvO_29
  | 30, _ => exact nvO_30
  | 31, _ => exact nvO_31
  | k + 32, h => exact absurd h (by omega)
theorem nvS (i : Nat) (h : i < 37) : ∀ w ∈ stW i, w ∈ flatC narrow_1 := by
  match i, h with
  | 0, _ => exact nvS_0
  | 1, _ => exact nvS_1
  | 2, _ => exact nvS_2
  | 3, _ => exact nvS_3
  | 4, _ => exact nvS_4
  | 5, _ => exact nvS_5
  | 6, _ => exact nvS_6
  | 7, _ => exact nvS_7
  | 8, _ => exact nvS_8
  | 9, _ => exact nvS_9
  | 10, _ => exact nvS_10
  | 11, _ => exact nvS_11
  | 12, _ => exact nvS_12
  | 13, _ => exact nvS_13
  | 14, _ => exact nvS_14
  | 15, _ => exact nvS_15
  | 16, _ => exact nvS_16
  | 17, _ => exact nvS_17
  | 18, _ => exact nvS_18
  | 19, _ => exact nvS_19
  | 20, _ => exact nvS_20
  | 21, _ => exact nvS_21
  | 22, _ => exact nvS_22
  | 23, _ => exact nvS_23
  | 24, _ => exact nvS_24
  | 25, _ => exact nvS_25
  | 26, _ => exact nvS_26
  | 27, _ => exact nvS_27
  | 28, _ => exact nvS_28
  | 29, _ => exact nvS_29
  | 30, _ => exact nvS_30
  | 31, _ => exact nvS_31
  | 32, _ => exact nvS_32
  | 33, _ => exact nvS_33
  | 34, _ => exact nvS_34
  | 35, _ => exact nvS_35
  | 36, _ => exact nvS_36
  | k + 37, h => exact absurd h (by omega)
theorem nvC (E : String) (h : E ∈ EXL) : ∀ w ∈ ncW E, w ∈ flatC narrow_1 := by
  rcases List.mem_cons.mp h with rfl | h
  · exact nvC_0
  rcases List.mem_cons.mp h with rfl | h
  · exact nvC_1
  rcases List.mem_cons.mp h with rfl | h
  · exact nvC_2
  rcases List.mem_cons.mp h with rfl | h
  · exact nvC_3
  rcases List.mem_cons.mp h with rfl | h
  · exact nvC_4
  rcases List.mem_cons.mp h with rfl | h
  · exact nvC_5
  cases h
section EN
variable {args : Array Value} {s : State}
theorem adr_ex {t : Term} {nm : String} (hex : (Cond.exactly t nm).before args s = true) : t.eval args s none [] s = some (.ref (adr (t.eval args s none [] s))) := by
  obtain ⟨a2, c, cA, kA, q1, -⟩ := Cond.exactly_spec (args := args) (first := s) (o := none) (s := s) (idx := []) (t := t) (cls := nm) hex
  rw [q1]; rfl
theorem eqv {a b : Term} {v : Value} (h : (Cond.eq a b).before args s = true) (hb : b.eval args s none [] s = some v) : a.eval args s none [] s = some v := by
  obtain ⟨y, h1, h2⟩ := Cond.eq_one h
  rw [h1, ← h2, hb]
theorem eaE {a b t : Nat} (h : (eaT a b).eval args s none [] s = some (.ref t)) : eaL args s a b = t := by
  show adr _ = t
  rw [h]; rfl
theorem tbX (hts : ∀ w ∈ lw_tbl, w.before args s = true) {w : Cond} (i : Nat) (h : tables_1[i]? = some w) : w.before args s = true := hts w (List.mem_append_right _ (List.mem_of_getElem? h))
theorem entS (hn : ∀ w ∈ flatC narrow_1, w.before args s = true) : ∀ i, i < 37 → va_O "java/lang/String" (eaL args s 2 i) (fun q => s.heap.size ≤ q) s s.heap ∧ va_OF "java/lang/String" "coder" "B" (.int 0) (eaL args s 2 i) (fun q => s.heap.size ≤ q) s s.heap ∧ va_OF "java/lang/String" "value" "[B" (.ref (eaL args s 3 i)) (eaL args s 2 i) (fun q => s.heap.size ≤ q) s s.heap ∧ va_T .byte (eaL args s 3 i) (STL.getD i []).length (fun j => .int ((STL.getD i []).getD j 0)) (fun q => s.heap.size ≤ q) s s.heap := by
  intro i hi
  have hw := fun w h => hn w (nvS i hi w h)
  have hA : ∀ a : Nat, a < s.heap.size → ¬ (fun q => s.heap.size ≤ q) a := fun a h => Nat.not_le.mpr h
  have h0 := hw _ (List.mem_append_left _ List.mem_cons_self)
  have e0 : (stT i).eval args s none [] s = some (.ref (eaL args s 2 i)) := adr_ex h0
  have h1 := hw _ (List.mem_append_left _ (List.mem_cons_of_mem _ List.mem_cons_self))
  have h2 := hw _ (List.mem_append_left _ (List.mem_cons_of_mem _ (List.mem_cons_of_mem _ List.mem_cons_self)))
  have h3 := hw _ (List.mem_append_left _ (List.mem_cons_of_mem _ (List.mem_cons_of_mem _ (List.mem_cons_of_mem _ List.mem_cons_self))))
  have hlen : (STL.getD i []).length < 2 ^ 31 := by
    have : ∀ i < 37, (STL.getD i []).length < 2 ^ 31 := by decide +kernel
    exact this i hi
  obtain ⟨t, ht, hT⟩ := va_Tof (f := fun j => .int ((STL.getD i []).getD j 0)) hlen h2 (eqv h3 rfl) (fun j hj => eqv (hw _ (List.mem_append_right _ (List.mem_map.mpr ⟨j, List.mem_range.mpr hj, rfl⟩))) rfl) hA
  have e3 : eaL args s 3 i = t := eaE ht
  rw [e3]
  exact ⟨va_Oof h0 e0 hA, vk_OFof e0 (eqv h1 rfl) hA, vk_OFof e0 ht hA, hT⟩
theorem entO (hn : ∀ w ∈ flatC narrow_1, w.before args s = true) : ∀ i, i < 32 → (va_O RX3 (eaL args s 0 i) (fun q => s.heap.size ≤ q) s s.heap ∧ va_OF "java/lang/Enum" "ordinal" "I" (.int (nI i)) (eaL args s 0 i) (fun q => s.heap.size ≤ q) s s.heap ∧ va_OF RX3 "fewest" "I" (.int (FEWL.getD i 0)) (eaL args s 0 i) (fun q => s.heap.size ≤ q) s s.heap ∧ va_OF RX3 "most" "I" (.int (MOSTL.getD i 0)) (eaL args s 0 i) (fun q => s.heap.size ≤ q) s s.heap ∧ va_OF RX3 "text" "Ljava/lang/String;" (.ref (eaL args s 2 i)) (eaL args s 0 i) (fun q => s.heap.size ≤ q) s s.heap) ∧ (Term.elem allT (.int (Int32.ofNat i))).eval args s none [] s = some (.ref (eaL args s 0 i)) ∧ (opT i).eval args s none [] s = some (.ref (eaL args s 0 i)) := by
  intro i hi
  have hw := fun w h => hn w (nvO i hi w h)
  have hA : ∀ a : Nat, a < s.heap.size → ¬ (fun q => s.heap.size ≤ q) a := fun a h => Nat.not_le.mpr h
  have h0 := hw _ List.mem_cons_self
  have h1 := hw _ (List.mem_cons_of_mem _ List.mem_cons_self)
  have h2 := hw _ (List.mem_cons_of_mem _ (List.mem_cons_of_mem _ List.mem_cons_self))
  have h3 := hw _ (List.mem_cons_of_mem _ (List.mem_cons_of_mem _ (List.mem_cons_of_mem _ List.mem_cons_self)))
  have h4 := hw _ (List.mem_cons_of_mem _ (List.mem_cons_of_mem _ (List.mem_cons_of_mem _ (List.mem_cons_of_mem _ List.mem_cons_self))))
  have h5 := hw _ (List.mem_cons_of_mem _ (List.mem_cons_of_mem _ (List.mem_cons_of_mem _ (List.mem_cons_of_mem _ (List.mem_cons_of_mem _ List.mem_cons_self)))))
  have e0 : (opT i).eval args s none [] s = some (.ref (eaL args s 0 i)) := adr_ex h1
  have s0 : (stT i).eval args s none [] s = some (.ref (eaL args s 2 i)) := adr_ex (hn _ (nvS i (by omega) _ (List.mem_append_left _ List.mem_cons_self)))
  exact ⟨⟨va_Oof h1 e0 hA, vk_OFof e0 (eqv h2 rfl) hA, vk_OFof e0 (eqv h4 rfl) hA, vk_OFof e0 (eqv h5 rfl) hA, vk_OFof e0 (eqv h3 s0) hA⟩, eqv h0 e0, e0⟩
theorem entNC (hn : ∀ w ∈ flatC narrow_1, w.before args s = true) : NCs s := fun E hE F hF hne => va_Nc.of (hn _ (nvC E hE _ (List.mem_map.mpr ⟨F, List.mem_filter.mpr ⟨hF, decide_eq_true (fun h => hne h.symm)⟩, rfl⟩)))
theorem entL (hts : ∀ w ∈ lw_tbl, w.before args s = true) (hgv : (Jvm.Cond.and given_1 narrow_1).before args s = true) : EnT (eaL args s) (fun q => s.heap.size ≤ q) s s.heap ∧ NCs s := by
  rw [Cond.before_and, Bool.and_eq_true] at hgv
  have hn := flat_of_before narrow_1 hgv.2
  have hA : ∀ a : Nat, a < s.heap.size → ¬ (fun q => s.heap.size ≤ q) a := fun a h => Nat.not_le.mpr h
  have hw := fun w h => hn w (nvW w h)
  obtain ⟨t1, q1, T1⟩ := va_Tof (N := 32) (f := fun j => .int (SMAP.getD j 0)) (by decide) (hw _ (List.mem_append_left _ List.mem_cons_self)) (eqv (hw _ (List.mem_append_left _ (List.mem_cons_of_mem _ List.mem_cons_self))) rfl) (fun j hj => eqv (hw _ (List.mem_append_right _ (List.mem_map.mpr ⟨j, List.mem_range.mpr hj, rfl⟩))) rfl) hA
  obtain ⟨t2, q2, T2⟩ := va_Tof (N := 32) (f := fun j => .ref (eaL args s 0 j)) (by decide) (hw _ (List.mem_append_left _ (List.mem_cons_of_mem _ (List.mem_cons_of_mem _ List.mem_cons_self)))) (eqv (hw _ (List.mem_append_left _ (List.mem_cons_of_mem _ (List.mem_cons_of_mem _ (List.mem_cons_of_mem _ List.mem_cons_self))))) rfl) (fun j hj => (entO hn j hj).2.1) hA
  have e1 : eaL args s 1 1 = t1 := eaE q1
  have e2 : eaL args s 1 0 = t2 := eaE q2
  have sx : ∀ i, i < 37 → (stT i).eval args s none [] s = some (.ref (eaL args s 2 i)) := fun i hi => adr_ex (hn _ (nvS i hi _ (List.mem_append_left _ List.mem_cons_self)))
  have hf11 : ∃ cur, s.vm.findClass RX11 = some cur := by
    obtain ⟨mk, hm⟩ := Cond.code_named (tbX hts 1119 (by decide +kernel) : (Cond.code yX11_take cX11_take 1 (some .int)).before args s = true)
    exact ⟨_, findClass_of_methodNamed hm⟩
  have mg : ∀ (k : Nat) (tx : String), (Cond.stringRef RX11 k tx).before args s = true → 5 ≤ k → vk_R RX11 k tx (eaL args s 4 k) s := by
    intro k tx h hk
    obtain ⟨cur, hcur⟩ := hf11
    obtain ⟨-, -, -, a, -, -, -, -, -, hev⟩ := Cond.stringRef_spec hcur h
    have : eaL args s 4 k = a := eaE hev
    rw [this]
    exact vk_R.of h hev
  rw [← e1] at T1
  rw [← e2] at T2
  refine ⟨⟨va_Zof (tbX hts 98 (by decide +kernel)) (tbX hts 8 (by decide +kernel)) (by rw [e2]; exact q2) hA, T2, va_Zof (tbX hts 730 (by decide +kernel)) (tbX hts 8 (by decide +kernel)) (entO hn 0 (by decide)).2.2 hA, va_Zof (tbX hts 737 (by decide +kernel)) (tbX hts 26 (by decide +kernel)) (by rw [e1]; exact q1) hA, T1, va_Zof (tbX hts 54 (by decide +kernel)) (tbX hts 3 (by decide +kernel)) (va_eqi (hw _ (List.mem_append_left _ (List.mem_cons_of_mem _ (List.mem_cons_of_mem _ (List.mem_cons_of_mem _ (List.mem_cons_of_mem _ List.mem_cons_self))))))) hA, fun i hi => (entO hn i hi).1, entS hn, ⟨?_, ?_, ?_, ?_, ?_, ?_, ?_, ?_, ?_⟩, vx_Zqof (tbX hts 501 (by decide +kernel)) (tbX hts 19 (by decide +kernel)) (hw _ (List.mem_append_left _ (List.mem_cons_of_mem _ (List.mem_cons_of_mem _ (List.mem_cons_of_mem _ (List.mem_cons_of_mem _ (List.mem_cons_of_mem _ (List.mem_cons_of_mem _ List.mem_cons_self)))))))) hA, vx_Zqof (tbX hts 503 (by decide +kernel)) (tbX hts 19 (by decide +kernel)) (hw _ (List.mem_append_left _ (List.mem_cons_of_mem _ (List.mem_cons_of_mem _ (List.mem_cons_of_mem _ (List.mem_cons_of_mem _ (List.mem_cons_of_mem _ (List.mem_cons_of_mem _ (List.mem_cons_of_mem _ List.mem_cons_self))))))))) hA, va_Zqof (tbX hts 77 (by decide +kernel)) (tbX hts 6 (by decide +kernel)) (hw _ (List.mem_append_left _ (List.mem_cons_of_mem _ (List.mem_cons_of_mem _ (List.mem_cons_of_mem _ (List.mem_cons_of_mem _ (List.mem_cons_of_mem _ List.mem_cons_self))))))) hA⟩, entNC hn⟩
  · exact vk_R.of (tbX hts 44 (by decide +kernel)) (sx 32 (by decide))
  · exact vk_R.of (tbX hts 132 (by decide +kernel)) (sx 33 (by decide))
  · exact vk_R.of (tbX hts 133 (by decide +kernel)) (sx 34 (by decide))
  · exact vk_R.of (tbX hts 988 (by decide +kernel)) (sx 35 (by decide))
  · exact vk_R.of (tbX hts 975 (by decide +kernel)) (sx 36 (by decide))
  · intro q hq
    rcases List.mem_cons.mp hq with rfl | hq
    · exact mg 74 _ (tbX hts 601 (by decide +kernel)) (by decide)
    rcases List.mem_cons.mp hq with rfl | hq
    · exact mg 83 _ (tbX hts 687 (by decide +kernel)) (by decide)
    rcases List.mem_cons.mp hq with rfl | hq
    · exact mg 112 _ (tbX hts 1120 (by decide +kernel)) (by decide)
    rcases List.mem_cons.mp hq with rfl | hq
    · exact mg 121 _ (tbX hts 1130 (by decide +kernel)) (by decide)
    rcases List.mem_cons.mp hq with rfl | hq
    · exact mg 128 _ (tbX hts 1132 (by decide +kernel)) (by decide)
    rcases List.mem_cons.mp hq with rfl | hq
    · exact mg 143 _ (tbX hts 1142 (by decide +kernel)) (by decide)
    rcases List.mem_cons.mp hq with rfl | hq
    · exact mg 151 _ (tbX hts 1152 (by decide +kernel)) (by decide)
    rcases List.mem_cons.mp hq with rfl | hq
    · exact mg 175 _ (tbX hts 1160 (by decide +kernel)) (by decide)
    rcases List.mem_cons.mp hq with rfl | hq
    · exact mg 180 _ (tbX hts 1046 (by decide +kernel)) (by decide)
    rcases List.mem_cons.mp hq with rfl | hq
    · exact mg 184 _ (tbX hts 1056 (by decide +kernel)) (by decide)
    rcases List.mem_cons.mp hq with rfl | hq
    · exact mg 187 _ (tbX hts 1072 (by decide +kernel)) (by decide)
    rcases List.mem_cons.mp hq with rfl | hq
    · exact mg 189 _ (tbX hts 1088 (by decide +kernel)) (by decide)
    rcases List.mem_cons.mp hq with rfl | hq
    · exact mg 193 _ (tbX hts 1096 (by decide +kernel)) (by decide)
    rcases List.mem_cons.mp hq with rfl | hq
    · exact mg 198 _ (tbX hts 1107 (by decide +kernel)) (by decide)
    cases hq
  · exact va_Nw.of rfl (tbX hts 636 (by decide +kernel))
  · exact va_Nw.of rfl (tbX hts 1005 (by decide +kernel))
  · exact ⟨va_Nw.of rfl (tbX hts 540 (by decide +kernel)), va_Nw.of rfl (tbX hts 542 (by decide +kernel)), va_Nw.of rfl (tbX hts 544 (by decide +kernel)), va_Nw.of rfl (tbX hts 594 (by decide +kernel)), va_Nw.of rfl (tbX hts 1049 (by decide +kernel)), va_Nw.of rfl (tbX hts 1065 (by decide +kernel)), va_Nw.of rfl (tbX hts 1081 (by decide +kernel)), va_Nw.of rfl (tbX hts 538 (by decide +kernel)), va_Nw.of rfl (tbX hts 1100 (by decide +kernel))⟩
end EN
