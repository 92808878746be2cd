theorem iX1 : ∀ w ∈ u_ws RX1 TX1 5, w ∈ TB := tbU [327, 329, 331, 333, 335] (by decide +kernel) (by decide +kernel)
theorem iX11 : ∀ w ∈ u_ws RX11 TX11 7, w ∈ TB := tbU [398, 400, 402, 404, 406, 408, 410] (by decide +kernel) (by decide +kernel)
theorem iX2 : ∀ w ∈ u_ws RX2 TX2 12, w ∈ TB := tbU [194, 196, 198, 200, 202, 204, 206, 208, 210, 212, 214, 216] (by decide +kernel) (by decide +kernel)
theorem iX4 : ∀ w ∈ u_ws RX4 TX4 3, w ∈ TB := tbU [286, 288, 290] (by decide +kernel) (by decide +kernel)
theorem iX5 : ∀ w ∈ u_ws RX5 TX5 3, w ∈ TB := tbU [268, 270, 272] (by decide +kernel) (by decide +kernel)
theorem iX6 : ∀ w ∈ u_ws RX6 TX6 9, w ∈ TB := tbU [236, 238, 240, 242, 244, 246, 248, 250, 252] (by decide +kernel) (by decide +kernel)
theorem iX7 : ∀ w ∈ u_ws RX7 TX7 16, w ∈ TB := tbU [358, 360, 362, 364, 366, 368, 370, 372, 374, 376, 378, 380, 382, 384, 386, 388] (by decide +kernel) (by decide +kernel)
theorem iX8 : ∀ w ∈ u_ws RX8 TX8 2, w ∈ TB := tbU [309, 311] (by decide +kernel) (by decide +kernel)
theorem iX9 : ∀ w ∈ u_ws RX9 TX9 5, w ∈ TB := tbU [153, 155, 157, 159, 161] (by decide +kernel) (by decide +kernel)
theorem code_X10_held : Cond.code yX10_held cX10_held 1 (some .int) ∈ TB := tbI 454 (by decide +kernel) rfl
theorem code_X10_of : Cond.code yX10_of cX10_of 2 (some .int) ∈ TB := tbI 136 (by decide +kernel) rfl
theorem code_X10_tag : Cond.code yX10_tag cX10_tag 1 (some .int) ∈ TB := tbI 451 (by decide +kernel) rfl
theorem code_X11_isInRange : Cond.code yX11_isInRange cX11_isInRange 1 (some .boolean) ∈ TB := tbI 638 (by decide +kernel) rfl
theorem code_X11_isWornOut : Cond.code yX11_isWornOut cX11_isWornOut 1 (some .boolean) ∈ TB := tbI 420 (by decide +kernel) rfl
theorem code_X11_raise : Cond.code yX11_raise cX11_raise 1 none ∈ TB := tbI 1045 (by decide +kernel) rfl
theorem code_X1_applying : Cond.code yX1_applying cX1_applying 5 (some .boolean) ∈ TB := tbI 825 (by decide +kernel) rfl
theorem code_X1_areParameters : Cond.code yX1_areParameters cX1_areParameters 6 (some .boolean) ∈ TB := tbI 795 (by decide +kernel) rfl
theorem code_X1_at : Cond.code yX1_at cX1_at 2 (some .int) ∈ TB := tbI 842 (by decide +kernel) rfl
theorem code_X1_body : Cond.code yX1_body cX1_body 6 (some .boolean) ∈ TB := tbI 763 (by decide +kernel) rfl
theorem code_X1_calling : Cond.code yX1_calling cX1_calling 4 (some .boolean) ∈ TB := tbI 821 (by decide +kernel) rfl
theorem code_X1_catching : Cond.code yX1_catching cX1_catching 5 (some .boolean) ∈ TB := tbI 809 (by decide +kernel) rfl
theorem code_X1_choice : Cond.code yX1_choice cX1_choice 7 (some .boolean) ∈ TB := tbI 751 (by decide +kernel) rfl
theorem code_X1_closure : Cond.code yX1_closure cX1_closure 6 (some .boolean) ∈ TB := tbI 791 (by decide +kernel) rfl
theorem code_X1_compile : Cond.code yX1_compile cX1_compile 4 (some .int) ∈ TB := tbI 695 (by decide +kernel) rfl
theorem code_X1_emit : Cond.code yX1_emit cX1_emit 2 none ∈ TB := tbI 707 (by decide +kernel) rfl
theorem code_X1_emitFor : Cond.code yX1_emitFor cX1_emitFor 6 none ∈ TB := tbI 771 (by decide +kernel) rfl
theorem code_X1_emit_ : Cond.code yX1_emit_ cX1_emit_ 3 none ∈ TB := tbI 747 (by decide +kernel) rfl
theorem code_X1_evaluation : Cond.code yX1_evaluation cX1_evaluation 3 (some .boolean) ∈ TB := tbI 703 (by decide +kernel) rfl
theorem code_X1_evaluations : Cond.code yX1_evaluations cX1_evaluations 6 (some .boolean) ∈ TB := tbI 817 (by decide +kernel) rfl
theorem code_X1_indexIn : Cond.code yX1_indexIn cX1_indexIn 5 (some .int) ∈ TB := tbI 783 (by decide +kernel) rfl
theorem code_X1_land : Cond.code yX1_land cX1_land 2 none ∈ TB := tbI 759 (by decide +kernel) rfl
theorem code_X1_leap : Cond.code yX1_leap cX1_leap 2 (some .int) ∈ TB := tbI 755 (by decide +kernel) rfl
theorem code_X1_list : Cond.code yX1_list cX1_list 8 (some .boolean) ∈ TB := tbI 712 (by decide +kernel) rfl
theorem code_X1_loop : Cond.code yX1_loop cX1_loop 6 (some .boolean) ∈ TB := tbI 787 (by decide +kernel) rfl
theorem code_X1_setting : Cond.code yX1_setting cX1_setting 4 (some .boolean) ∈ TB := tbI 767 (by decide +kernel) rfl
theorem code_X1_throwing : Cond.code yX1_throwing cX1_throwing 4 (some .boolean) ∈ TB := tbI 813 (by decide +kernel) rfl
theorem code_X2_at : Cond.code yX2_at cX2_at 2 (some .int) ∈ TB := tbI 458 (by decide +kernel) rfl
theorem code_X2_car : Cond.code yX2_car cX2_car 2 (some .int) ∈ TB := tbI 716 (by decide +kernel) rfl
theorem code_X2_cdr : Cond.code yX2_cdr cX2_cdr 2 (some .int) ∈ TB := tbI 720 (by decide +kernel) rfl
theorem code_X2_dropRead : Cond.code yX2_dropRead cX2_dropRead 1 none ∈ TB := tbI 428 (by decide +kernel) rfl
theorem code_X2_endMove : Cond.code yX2_endMove cX2_endMove 2 none ∈ TB := tbI 471 (by decide +kernel) rfl
theorem code_X2_hasRoom : Cond.code yX2_hasRoom cX2_hasRoom 2 (some .boolean) ∈ TB := tbI 901 (by decide +kernel) rfl
theorem code_X2_keepRead : Cond.code yX2_keepRead cX2_keepRead 1 none ∈ TB := tbI 686 (by decide +kernel) rfl
theorem code_X2_listLength : Cond.code yX2_listLength cX2_listLength 4 (some .int) ∈ TB := tbI 734 (by decide +kernel) rfl
theorem code_X2_make : Cond.code yX2_make cX2_make 3 (some .int) ∈ TB := tbI 905 (by decide +kernel) rfl
theorem code_X2_move : Cond.code yX2_move cX2_move 8 (some .int) ∈ TB := tbI 448 (by decide +kernel) rfl
theorem code_X2_moveAt : Cond.code yX2_moveAt cX2_moveAt 4 none ∈ TB := tbI 475 (by decide +kernel) rfl
theorem code_X2_moveRow : Cond.code yX2_moveRow cX2_moveRow 4 none ∈ TB := tbI 444 (by decide +kernel) rfl
theorem code_X2_objectLength : Cond.code yX2_objectLength cX2_objectLength 3 (some .int) ∈ TB := tbI 463 (by decide +kernel) rfl
theorem code_X2_put : Cond.code yX2_put cX2_put 3 none ∈ TB := tbI 467 (by decide +kernel) rfl
theorem code_X2_readCell : Cond.code yX2_readCell cX2_readCell 4 (some .int) ∈ TB := tbI 667 (by decide +kernel) rfl
theorem code_X2_replace : Cond.code yX2_replace cX2_replace 3 none ∈ TB := tbI 918 (by decide +kernel) rfl
theorem code_X2_startMove : Cond.code yX2_startMove cX2_startMove 1 none ∈ TB := tbI 440 (by decide +kernel) rfl
theorem code_X2_vectorLength : Cond.code yX2_vectorLength cX2_vectorLength 2 (some .int) ∈ TB := tbI 936 (by decide +kernel) rfl
theorem code_X3_at : Cond.code yX3_at cX3_at 1 (some (.object "TagMachine$Operator")) ∈ TB := tbI 728 (by decide +kernel) rfl
theorem code_X3_indexOf : Cond.code yX3_indexOf cX3_indexOf 3 (some .int) ∈ TB := tbI 96 (by decide +kernel) rfl
theorem code_X3_isNamed : Cond.code yX3_isNamed cX3_isNamed 4 (some .boolean) ∈ TB := tbI 103 (by decide +kernel) rfl
theorem code_X4_endLine : Cond.code yX4_endLine cX4_endLine 1 none ∈ TB := tbI 992 (by decide +kernel) rfl
theorem code_X4_write : Cond.code yX4_write cX4_write 3 none ∈ TB := tbI 944 (by decide +kernel) rfl
theorem code_X4_writeList : Cond.code yX4_writeList cX4_writeList 5 none ∈ TB := tbI 967 (by decide +kernel) rfl
theorem code_X4_writeName : Cond.code yX4_writeName cX4_writeName 3 none ∈ TB := tbI 961 (by decide +kernel) rfl
theorem code_X4_writeNumber : Cond.code yX4_writeNumber cX4_writeNumber 4 none ∈ TB := tbI 950 (by decide +kernel) rfl
theorem code_X4_writeText : Cond.code yX4_writeText cX4_writeText 3 none ∈ TB := tbI 979 (by decide +kernel) rfl
theorem code_X4_writeVector : Cond.code yX4_writeVector cX4_writeVector 5 none ∈ TB := tbI 985 (by decide +kernel) rfl
theorem code_X5_add : Cond.code yX5_add cX5_add 3 none ∈ TB := tbI 954 (by decide +kernel) rfl
theorem code_X5_isFull : Cond.code yX5_isFull cX5_isFull 1 (some .boolean) ∈ TB := tbI 974 (by decide +kernel) rfl
theorem code_X5_removeOldest : Cond.code yX5_removeOldest cX5_removeOldest 2 (some .int) ∈ TB := tbI 996 (by decide +kernel) rfl
theorem code_X6_addLetter : Cond.code yX6_addLetter cX6_addLetter 2 none ∈ TB := tbI 615 (by decide +kernel) rfl
theorem code_X6_addValue : Cond.code yX6_addValue cX6_addValue 5 none ∈ TB := tbI 659 (by decide +kernel) rfl
theorem code_X6_atomWord : Cond.code yX6_atomWord cX6_atomWord 2 (some .int) ∈ TB := tbI 623 (by decide +kernel) rfl
theorem code_X6_close : Cond.code yX6_close cX6_close 2 (some .int) ∈ TB := tbI 682 (by decide +kernel) rfl
theorem code_X6_drop : Cond.code yX6_drop cX6_drop 2 (some .int) ∈ TB := tbI 424 (by decide +kernel) rfl
theorem code_X6_endAtom : Cond.code yX6_endAtom cX6_endAtom 2 (some .boolean) ∈ TB := tbI 619 (by decide +kernel) rfl
theorem code_X6_firstDigit : Cond.code yX6_firstDigit cX6_firstDigit 1 (some .int) ∈ TB := tbI 631 (by decide +kernel) rfl
theorem code_X6_isDigit : Cond.code yX6_isDigit cX6_isDigit 1 (some .boolean) ∈ TB := tbI 591 (by decide +kernel) rfl
theorem code_X6_isNumber : Cond.code yX6_isNumber cX6_isNumber 3 (some .boolean) ∈ TB := tbI 627 (by decide +kernel) rfl
theorem code_X6_isOfAtom : Cond.code yX6_isOfAtom cX6_isOfAtom 1 (some .boolean) ∈ TB := tbI 588 (by decide +kernel) rfl
theorem code_X6_isQuoteOpen : Cond.code yX6_isQuoteOpen cX6_isQuoteOpen 1 (some .boolean) ∈ TB := tbI 663 (by decide +kernel) rfl
theorem code_X6_isReadable : Cond.code yX6_isReadable cX6_isReadable 1 (some .boolean) ∈ TB := tbI 585 (by decide +kernel) rfl
theorem code_X6_numberWord : Cond.code yX6_numberWord cX6_numberWord 5 (some .int) ∈ TB := tbI 635 (by decide +kernel) rfl
theorem code_X6_openOne : Cond.code yX6_openOne cX6_openOne 2 (some .int) ∈ TB := tbI 678 (by decide +kernel) rfl
theorem code_X6_read : Cond.code yX6_read cX6_read 2 (some .int) ∈ TB := tbI 611 (by decide +kernel) rfl
theorem code_X6_refuse : Cond.code yX6_refuse cX6_refuse 1 (some .int) ∈ TB := tbI 673 (by decide +kernel) rfl
theorem code_X7_addressOf : Cond.code yX7_addressOf cX7_addressOf 4 (some .int) ∈ TB := tbI 861 (by decide +kernel) rfl
theorem code_X7_advance : Cond.code yX7_advance cX7_advance 4 none ∈ TB := tbI 834 (by decide +kernel) rfl
theorem code_X7_advanceControl : Cond.code yX7_advanceControl cX7_advanceControl 2 none ∈ TB := tbI 1019 (by decide +kernel) rfl
theorem code_X7_answerOf : Cond.code yX7_answerOf cX7_answerOf 5 (some .int) ∈ TB := tbI 878 (by decide +kernel) rfl
theorem code_X7_begin : Cond.code yX7_begin cX7_begin 2 none ∈ TB := tbI 829 (by decide +kernel) rfl
theorem code_X7_beginCatch : Cond.code yX7_beginCatch cX7_beginCatch 3 none ∈ TB := tbI 1032 (by decide +kernel) rfl
theorem code_X7_computed : Cond.code yX7_computed cX7_computed 6 (some .int) ∈ TB := tbI 1000 (by decide +kernel) rfl
theorem code_X7_countStep : Cond.code yX7_countStep cX7_countStep 1 none ∈ TB := tbI 846 (by decide +kernel) rfl
theorem code_X7_end : Cond.code yX7_end cX7_end 1 none ∈ TB := tbI 1042 (by decide +kernel) rfl
theorem code_X7_enter : Cond.code yX7_enter cX7_enter 6 none ∈ TB := tbI 1027 (by decide +kernel) rfl
theorem code_X7_failing : Cond.code yX7_failing cX7_failing 2 (some .int) ∈ TB := tbI 889 (by decide +kernel) rfl
theorem code_X7_frameHere : Cond.code yX7_frameHere cX7_frameHere 1 (some .int) ∈ TB := tbI 865 (by decide +kernel) rfl
theorem code_X7_indexed : Cond.code yX7_indexed cX7_indexed 4 (some .int) ∈ TB := tbI 932 (by decide +kernel) rfl
theorem code_X7_isRoomFor : Cond.code yX7_isRoomFor cX7_isRoomFor 2 (some .boolean) ∈ TB := tbI 897 (by decide +kernel) rfl
theorem code_X7_jumpIfNil : Cond.code yX7_jumpIfNil cX7_jumpIfNil 2 none ∈ TB := tbI 873 (by decide +kernel) rfl
theorem code_X7_keepLive : Cond.code yX7_keepLive cX7_keepLive 1 none ∈ TB := tbI 436 (by decide +kernel) rfl
theorem code_X7_lengthOf : Cond.code yX7_lengthOf cX7_lengthOf 2 (some .int) ∈ TB := tbI 940 (by decide +kernel) rfl
theorem code_X7_makeClosure : Cond.code yX7_makeClosure cX7_makeClosure 3 none ∈ TB := tbI 1023 (by decide +kernel) rfl
theorem code_X7_newCell : Cond.code yX7_newCell cX7_newCell 4 (some .int) ∈ TB := tbI 893 (by decide +kernel) rfl
theorem code_X7_newList : Cond.code yX7_newList cX7_newList 5 (some .int) ∈ TB := tbI 910 (by decide +kernel) rfl
theorem code_X7_newVector : Cond.code yX7_newVector cX7_newVector 6 (some .int) ∈ TB := tbI 928 (by decide +kernel) rfl
theorem code_X7_operand : Cond.code yX7_operand cX7_operand 2 (some .int) ∈ TB := tbI 838 (by decide +kernel) rfl
theorem code_X7_partOf : Cond.code yX7_partOf cX7_partOf 3 (some .int) ∈ TB := tbI 884 (by decide +kernel) rfl
theorem code_X7_pushOwn : Cond.code yX7_pushOwn cX7_pushOwn 3 none ∈ TB := tbI 851 (by decide +kernel) rfl
theorem code_X7_ranged : Cond.code yX7_ranged cX7_ranged 2 (some .int) ∈ TB := tbI 1004 (by decide +kernel) rfl
theorem code_X7_replaced : Cond.code yX7_replaced cX7_replaced 4 (some .int) ∈ TB := tbI 914 (by decide +kernel) rfl
theorem code_X7_run : Cond.code yX7_run cX7_run 5 (some .int) ∈ TB := tbI 691 (by decide +kernel) rfl
theorem code_X7_settle : Cond.code yX7_settle cX7_settle 3 none ∈ TB := tbI 1014 (by decide +kernel) rfl
theorem code_X7_shifted : Cond.code yX7_shifted cX7_shifted 5 (some .int) ∈ TB := tbI 1009 (by decide +kernel) rfl
theorem code_X7_throwValue : Cond.code yX7_throwValue cX7_throwValue 4 none ∈ TB := tbI 1036 (by decide +kernel) rfl
theorem code_X7_truth : Cond.code yX7_truth cX7_truth 1 (some .int) ∈ TB := tbI 924 (by decide +kernel) rfl
theorem code_X8_at : Cond.code yX8_at cX8_at 2 (some .int) ∈ TB := tbI 779 (by decide +kernel) rfl
theorem code_X8_cut : Cond.code yX8_cut cX8_cut 2 none ∈ TB := tbI 699 (by decide +kernel) rfl
theorem code_X8_peek : Cond.code yX8_peek cX8_peek 2 (some .int) ∈ TB := tbI 775 (by decide +kernel) rfl
theorem code_X8_pop : Cond.code yX8_pop cX8_pop 2 (some .int) ∈ TB := tbI 803 (by decide +kernel) rfl
theorem code_X8_push : Cond.code yX8_push cX8_push 2 none ∈ TB := tbI 799 (by decide +kernel) rfl
theorem code_X9_add : Cond.code yX9_add cX9_add 5 (some .int) ∈ TB := tbI 93 (by decide +kernel) rfl
theorem code_X9_has : Cond.code yX9_has cX9_has 2 (some .boolean) ∈ TB := tbI 144 (by decide +kernel) rfl
theorem code_X9_isNamed : Cond.code yX9_isNamed cX9_isNamed 5 (some .boolean) ∈ TB := tbI 647 (by decide +kernel) rfl
theorem code_X9_length : Cond.code yX9_length cX9_length 2 (some .int) ∈ TB := tbI 651 (by decide +kernel) rfl
theorem code_X9_letter : Cond.code yX9_letter cX9_letter 4 (some .char) ∈ TB := tbI 655 (by decide +kernel) rfl
theorem code_X9_numbered : Cond.code yX9_numbered cX9_numbered 4 (some .int) ∈ TB := tbI 643 (by decide +kernel) rfl
theorem code_X9_operator : Cond.code yX9_operator cX9_operator 2 (some .int) ∈ TB := tbI 725 (by decide +kernel) rfl
theorem code_X9_setWord : Cond.code yX9_setWord cX9_setWord 3 none ∈ TB := tbI 140 (by decide +kernel) rfl
theorem code_X9_word : Cond.code yX9_word cX9_word 2 (some .int) ∈ TB := tbI 855 (by decide +kernel) rfl
theorem kMX2_18 : Cond.methodLink RX2 18 Lib.Math.max.name ∈ TB := tbI 176 (by decide +kernel) rfl
theorem kMX2_59 : Cond.methodLink RX2 59 Lib.Math.min.name ∈ TB := tbI 919 (by decide +kernel) rfl
theorem kMX4_67 : Cond.methodLink RX4 67 Lib.Math.abs.name ∈ TB := tbI 955 (by decide +kernel) rfl
theorem kMX5_7 : Cond.methodLink RX5 7 Lib.Math.max.name ∈ TB := tbI 262 (by decide +kernel) rfl
theorem kMX7_213 : Cond.methodLink RX7 213 Lib.Math.max.name ∈ TB := tbI 1028 (by decide +kernel) rfl
theorem kMX8_7 : Cond.methodLink RX8 7 Lib.Math.max.name ∈ TB := tbI 303 (by decide +kernel) rfl
theorem kMc_abs : Cond.code Lib.Math.abs.name Lib.Math.abs.code 1 (some .int) ∈ TB := tbI 957 (by decide +kernel) rfl
theorem kMc_max : Cond.code Lib.Math.max.name Lib.Math.max.code 2 (some .int) ∈ TB := tbI 178 (by decide +kernel) rfl
theorem kMc_min : Cond.code Lib.Math.min.name Lib.Math.min.code 2 (some .int) ∈ TB := tbI 921 (by decide +kernel) rfl
theorem kMi : Cond.initialized "java/lang/Math" ∈ TB := tbI 11 (by decide +kernel) rfl
theorem kMs_abs : Cond.static Lib.Math.abs.name ∈ TB := tbI 956 (by decide +kernel) rfl
theorem kMs_max : Cond.static Lib.Math.max.name ∈ TB := tbI 177 (by decide +kernel) rfl
theorem kMs_min : Cond.static Lib.Math.min.name ∈ TB := tbI 920 (by decide +kernel) rfl
theorem kcX7_289 : Cond.constant RX7 289 (65535 : Int32) ∈ TB := tbI 1010 (by decide +kernel) rfl
theorem kcX7_62 : Cond.constant RX7 62 (1000000 : Int32) ∈ TB := tbI 830 (by decide +kernel) rfl
theorem kfX11_10 : fld RX11 10 11 0 := ⟨_, _, _, rfl, iX11, Nat.le_of_ble_eq_true rfl, tbI 391 (by decide +kernel) rfl⟩
theorem kfX11_107 : fld RX11 107 6 2 := ⟨_, _, _, rfl, iX5, Nat.le_of_ble_eq_true rfl, tbI 266 (by decide +kernel) rfl⟩
theorem kfX11_137 : fld RX11 137 3 9 := ⟨_, _, _, rfl, iX2, Nat.le_of_ble_eq_true rfl, tbI 188 (by decide +kernel) rfl⟩
theorem kfX11_153 : fld RX11 153 3 11 := ⟨_, _, _, rfl, iX2, Nat.le_of_ble_eq_true rfl, tbI 192 (by decide +kernel) rfl⟩
theorem kfX11_156 : fld RX11 156 3 10 := ⟨_, _, _, rfl, iX2, Nat.le_of_ble_eq_true rfl, tbI 190 (by decide +kernel) rfl⟩
theorem kfX11_159 : fld RX11 159 8 12 := ⟨_, _, _, rfl, iX7, Nat.le_of_ble_eq_true rfl, tbI 351 (by decide +kernel) rfl⟩
theorem kfX11_162 : fld RX11 162 8 13 := ⟨_, _, _, rfl, iX7, Nat.le_of_ble_eq_true rfl, tbI 353 (by decide +kernel) rfl⟩
theorem kfX11_165 : fld RX11 165 10 4 := ⟨_, _, _, rfl, iX9, Nat.le_of_ble_eq_true rfl, tbI 152 (by decide +kernel) rfl⟩
theorem kfX11_166 : fld RX11 166 7 7 := ⟨_, _, _, rfl, iX6, Nat.le_of_ble_eq_true rfl, tbI 233 (by decide +kernel) rfl⟩
theorem kfX11_169 : fld RX11 169 8 14 := ⟨_, _, _, rfl, iX7, Nat.le_of_ble_eq_true rfl, tbI 355 (by decide +kernel) rfl⟩
theorem kfX11_172 : fld RX11 172 8 15 := ⟨_, _, _, rfl, iX7, Nat.le_of_ble_eq_true rfl, tbI 357 (by decide +kernel) rfl⟩
theorem kfX11_177 : fld RX11 177 11 6 := ⟨_, _, _, rfl, iX11, Nat.le_of_ble_eq_true rfl, tbI 397 (by decide +kernel) rfl⟩
theorem kfX11_27 : fld RX11 27 11 1 := ⟨_, _, _, rfl, iX11, Nat.le_of_ble_eq_true rfl, tbI 392 (by decide +kernel) rfl⟩
theorem kfX11_36 : fld RX11 36 11 2 := ⟨_, _, _, rfl, iX11, Nat.le_of_ble_eq_true rfl, tbI 393 (by decide +kernel) rfl⟩
theorem kfX11_43 : fld RX11 43 11 4 := ⟨_, _, _, rfl, iX11, Nat.le_of_ble_eq_true rfl, tbI 395 (by decide +kernel) rfl⟩
theorem kfX11_47 : fld RX11 47 11 5 := ⟨_, _, _, rfl, iX11, Nat.le_of_ble_eq_true rfl, tbI 396 (by decide +kernel) rfl⟩
theorem kfX11_60 : fld RX11 60 11 3 := ⟨_, _, _, rfl, iX11, Nat.le_of_ble_eq_true rfl, tbI 394 (by decide +kernel) rfl⟩
theorem kfX11_85 : fld RX11 85 7 8 := ⟨_, _, _, rfl, iX6, Nat.le_of_ble_eq_true rfl, tbI 235 (by decide +kernel) rfl⟩
theorem kfX1_11 : fld RX1 11 2 2 := ⟨_, _, _, rfl, iX1, Nat.le_of_ble_eq_true rfl, tbI 324 (by decide +kernel) rfl⟩
theorem kfX1_153 : fld RX1 153 9 1 := ⟨_, _, _, rfl, iX8, Nat.le_of_ble_eq_true rfl, tbI 308 (by decide +kernel) rfl⟩
theorem kfX1_20 : fld RX1 20 2 4 := ⟨_, _, _, rfl, iX1, Nat.le_of_ble_eq_true rfl, tbI 326 (by decide +kernel) rfl⟩
theorem kfX1_24 : fld RX1 24 2 0 := ⟨_, _, _, rfl, iX1, Nat.le_of_ble_eq_true rfl, tbI 322 (by decide +kernel) rfl⟩
theorem kfX1_28 : fld RX1 28 2 1 := ⟨_, _, _, rfl, iX1, Nat.le_of_ble_eq_true rfl, tbI 323 (by decide +kernel) rfl⟩
theorem kfX1_32 : fld RX1 32 2 3 := ⟨_, _, _, rfl, iX1, Nat.le_of_ble_eq_true rfl, tbI 325 (by decide +kernel) rfl⟩
theorem kfX2_11 : fld RX2 11 3 4 := ⟨_, _, _, rfl, iX2, Nat.le_of_ble_eq_true rfl, tbI 183 (by decide +kernel) rfl⟩
theorem kfX2_15 : fld RX2 15 3 6 := ⟨_, _, _, rfl, iX2, Nat.le_of_ble_eq_true rfl, tbI 185 (by decide +kernel) rfl⟩
theorem kfX2_24 : fld RX2 24 3 1 := ⟨_, _, _, rfl, iX2, Nat.le_of_ble_eq_true rfl, tbI 180 (by decide +kernel) rfl⟩
theorem kfX2_27 : fld RX2 27 3 0 := ⟨_, _, _, rfl, iX2, Nat.le_of_ble_eq_true rfl, tbI 179 (by decide +kernel) rfl⟩
theorem kfX2_46 : fld RX2 46 3 2 := ⟨_, _, _, rfl, iX2, Nat.le_of_ble_eq_true rfl, tbI 181 (by decide +kernel) rfl⟩
theorem kfX2_56 : fld RX2 56 3 3 := ⟨_, _, _, rfl, iX2, Nat.le_of_ble_eq_true rfl, tbI 182 (by decide +kernel) rfl⟩
theorem kfX2_62 : fld RX2 62 3 5 := ⟨_, _, _, rfl, iX2, Nat.le_of_ble_eq_true rfl, tbI 184 (by decide +kernel) rfl⟩
theorem kfX2_65 : fld RX2 65 3 9 := ⟨_, _, _, rfl, iX2, Nat.le_of_ble_eq_true rfl, tbI 189 (by decide +kernel) rfl⟩
theorem kfX2_68 : fld RX2 68 3 7 := ⟨_, _, _, rfl, iX2, Nat.le_of_ble_eq_true rfl, tbI 186 (by decide +kernel) rfl⟩
theorem kfX2_71 : fld RX2 71 3 8 := ⟨_, _, _, rfl, iX2, Nat.le_of_ble_eq_true rfl, tbI 187 (by decide +kernel) rfl⟩
theorem kfX2_83 : fld RX2 83 3 11 := ⟨_, _, _, rfl, iX2, Nat.le_of_ble_eq_true rfl, tbI 193 (by decide +kernel) rfl⟩
theorem kfX4_15 : fld RX4 15 5 1 := ⟨_, _, _, rfl, iX4, Nat.le_of_ble_eq_true rfl, tbI 284 (by decide +kernel) rfl⟩
theorem kfX4_19 : fld RX4 19 5 2 := ⟨_, _, _, rfl, iX4, Nat.le_of_ble_eq_true rfl, tbI 285 (by decide +kernel) rfl⟩
theorem kfX4_9 : fld RX4 9 5 0 := ⟨_, _, _, rfl, iX4, Nat.le_of_ble_eq_true rfl, tbI 283 (by decide +kernel) rfl⟩
theorem kfX5_13 : fld RX5 13 6 0 := ⟨_, _, _, rfl, iX5, Nat.le_of_ble_eq_true rfl, tbI 263 (by decide +kernel) rfl⟩
theorem kfX5_19 : fld RX5 19 6 2 := ⟨_, _, _, rfl, iX5, Nat.le_of_ble_eq_true rfl, tbI 265 (by decide +kernel) rfl⟩
theorem kfX5_23 : fld RX5 23 6 1 := ⟨_, _, _, rfl, iX5, Nat.le_of_ble_eq_true rfl, tbI 264 (by decide +kernel) rfl⟩
theorem kfX6_15 : fld RX6 15 7 4 := ⟨_, _, _, rfl, iX6, Nat.le_of_ble_eq_true rfl, tbI 229 (by decide +kernel) rfl⟩
theorem kfX6_19 : fld RX6 19 7 5 := ⟨_, _, _, rfl, iX6, Nat.le_of_ble_eq_true rfl, tbI 230 (by decide +kernel) rfl⟩
theorem kfX6_23 : fld RX6 23 7 6 := ⟨_, _, _, rfl, iX6, Nat.le_of_ble_eq_true rfl, tbI 231 (by decide +kernel) rfl⟩
theorem kfX6_32 : fld RX6 32 7 0 := ⟨_, _, _, rfl, iX6, Nat.le_of_ble_eq_true rfl, tbI 225 (by decide +kernel) rfl⟩
theorem kfX6_36 : fld RX6 36 7 1 := ⟨_, _, _, rfl, iX6, Nat.le_of_ble_eq_true rfl, tbI 226 (by decide +kernel) rfl⟩
theorem kfX6_63 : fld RX6 63 7 7 := ⟨_, _, _, rfl, iX6, Nat.le_of_ble_eq_true rfl, tbI 232 (by decide +kernel) rfl⟩
theorem kfX6_69 : fld RX6 69 7 3 := ⟨_, _, _, rfl, iX6, Nat.le_of_ble_eq_true rfl, tbI 228 (by decide +kernel) rfl⟩
theorem kfX6_9 : fld RX6 9 7 2 := ⟨_, _, _, rfl, iX6, Nat.le_of_ble_eq_true rfl, tbI 227 (by decide +kernel) rfl⟩
theorem kfX7_106 : fld RX7 106 8 14 := ⟨_, _, _, rfl, iX7, Nat.le_of_ble_eq_true rfl, tbI 354 (by decide +kernel) rfl⟩
theorem kfX7_115 : fld RX7 115 10 3 := ⟨_, _, _, rfl, iX9, Nat.le_of_ble_eq_true rfl, tbI 149 (by decide +kernel) rfl⟩
theorem kfX7_119 : fld RX7 119 10 4 := ⟨_, _, _, rfl, iX9, Nat.le_of_ble_eq_true rfl, tbI 151 (by decide +kernel) rfl⟩
theorem kfX7_126 : fld RX7 126 9 0 := ⟨_, _, _, rfl, iX8, Nat.le_of_ble_eq_true rfl, tbI 305 (by decide +kernel) rfl⟩
theorem kfX7_127 : fld RX7 127 9 1 := ⟨_, _, _, rfl, iX8, Nat.le_of_ble_eq_true rfl, tbI 307 (by decide +kernel) rfl⟩
theorem kfX7_16 : fld RX7 16 8 5 := ⟨_, _, _, rfl, iX7, Nat.le_of_ble_eq_true rfl, tbI 343 (by decide +kernel) rfl⟩
theorem kfX7_20 : fld RX7 20 8 6 := ⟨_, _, _, rfl, iX7, Nat.le_of_ble_eq_true rfl, tbI 344 (by decide +kernel) rfl⟩
theorem kfX7_23 : fld RX7 23 8 7 := ⟨_, _, _, rfl, iX7, Nat.le_of_ble_eq_true rfl, tbI 345 (by decide +kernel) rfl⟩
theorem kfX7_26 : fld RX7 26 8 0 := ⟨_, _, _, rfl, iX7, Nat.le_of_ble_eq_true rfl, tbI 338 (by decide +kernel) rfl⟩
theorem kfX7_261 : fld RX7 261 6 2 := ⟨_, _, _, rfl, iX5, Nat.le_of_ble_eq_true rfl, tbI 267 (by decide +kernel) rfl⟩
theorem kfX7_30 : fld RX7 30 8 1 := ⟨_, _, _, rfl, iX7, Nat.le_of_ble_eq_true rfl, tbI 339 (by decide +kernel) rfl⟩
theorem kfX7_34 : fld RX7 34 8 2 := ⟨_, _, _, rfl, iX7, Nat.le_of_ble_eq_true rfl, tbI 340 (by decide +kernel) rfl⟩
theorem kfX7_38 : fld RX7 38 8 3 := ⟨_, _, _, rfl, iX7, Nat.le_of_ble_eq_true rfl, tbI 341 (by decide +kernel) rfl⟩
theorem kfX7_47 : fld RX7 47 8 4 := ⟨_, _, _, rfl, iX7, Nat.le_of_ble_eq_true rfl, tbI 342 (by decide +kernel) rfl⟩
theorem kfX7_55 : fld RX7 55 8 15 := ⟨_, _, _, rfl, iX7, Nat.le_of_ble_eq_true rfl, tbI 356 (by decide +kernel) rfl⟩
theorem kfX7_63 : fld RX7 63 8 9 := ⟨_, _, _, rfl, iX7, Nat.le_of_ble_eq_true rfl, tbI 347 (by decide +kernel) rfl⟩
theorem kfX7_67 : fld RX7 67 8 10 := ⟨_, _, _, rfl, iX7, Nat.le_of_ble_eq_true rfl, tbI 348 (by decide +kernel) rfl⟩
theorem kfX7_70 : fld RX7 70 8 8 := ⟨_, _, _, rfl, iX7, Nat.le_of_ble_eq_true rfl, tbI 346 (by decide +kernel) rfl⟩
theorem kfX7_73 : fld RX7 73 8 11 := ⟨_, _, _, rfl, iX7, Nat.le_of_ble_eq_true rfl, tbI 349 (by decide +kernel) rfl⟩
theorem kfX7_91 : fld RX7 91 8 12 := ⟨_, _, _, rfl, iX7, Nat.le_of_ble_eq_true rfl, tbI 350 (by decide +kernel) rfl⟩
theorem kfX7_94 : fld RX7 94 8 13 := ⟨_, _, _, rfl, iX7, Nat.le_of_ble_eq_true rfl, tbI 352 (by decide +kernel) rfl⟩
theorem kfX8_13 : fld RX8 13 9 0 := ⟨_, _, _, rfl, iX8, Nat.le_of_ble_eq_true rfl, tbI 304 (by decide +kernel) rfl⟩
theorem kfX8_19 : fld RX8 19 9 1 := ⟨_, _, _, rfl, iX8, Nat.le_of_ble_eq_true rfl, tbI 306 (by decide +kernel) rfl⟩
theorem kfX9_13 : fld RX9 13 10 1 := ⟨_, _, _, rfl, iX9, Nat.le_of_ble_eq_true rfl, tbI 146 (by decide +kernel) rfl⟩
theorem kfX9_17 : fld RX9 17 10 2 := ⟨_, _, _, rfl, iX9, Nat.le_of_ble_eq_true rfl, tbI 147 (by decide +kernel) rfl⟩
theorem kfX9_20 : fld RX9 20 10 3 := ⟨_, _, _, rfl, iX9, Nat.le_of_ble_eq_true rfl, tbI 148 (by decide +kernel) rfl⟩
theorem kfX9_49 : fld RX9 49 10 4 := ⟨_, _, _, rfl, iX9, Nat.le_of_ble_eq_true rfl, tbI 150 (by decide +kernel) rfl⟩
theorem kfX9_9 : fld RX9 9 10 0 := ⟨_, _, _, rfl, iX9, Nat.le_of_ble_eq_true rfl, tbI 145 (by decide +kernel) rfl⟩
theorem kmX11_103 : mlV RX11 103 RX6 yX6_drop cX6_drop 2 (some .int) 0 := mlV_mk (tbI 421 (by decide +kernel) rfl) (tbI 422 (by decide +kernel) rfl) (tbI 423 (by decide +kernel) rfl) (tbI 12 (by decide +kernel) rfl) code_X6_drop (by decide +kernel)
theorem kmX11_115 : mlV RX11 115 RX5 yX5_removeOldest cX5_removeOldest 2 (some .int) 0 := mlV_mk (tbI 1121 (by decide +kernel) rfl) (tbI 994 (by decide +kernel) rfl) (tbI 995 (by decide +kernel) rfl) (tbI 13 (by decide +kernel) rfl) code_X5_removeOldest (by decide +kernel)
theorem kmX11_123 : mlV RX11 123 RX5 yX5_isFull cX5_isFull 1 (some .boolean) 0 := mlV_mk (tbI 1131 (by decide +kernel) rfl) (tbI 972 (by decide +kernel) rfl) (tbI 973 (by decide +kernel) rfl) (tbI 13 (by decide +kernel) rfl) code_X5_isFull (by decide +kernel)
theorem kmX11_131 : mlV RX11 131 RX5 yX5_add cX5_add 3 none 1 := mlV_mk (tbI 1133 (by decide +kernel) rfl) (tbI 952 (by decide +kernel) rfl) (tbI 953 (by decide +kernel) rfl) (tbI 13 (by decide +kernel) rfl) code_X5_add (by decide +kernel)
theorem kmX11_134 : mlV RX11 134 RX7 yX7_keepLive cX7_keepLive 1 none 0 := mlV_mk (tbI 433 (by decide +kernel) rfl) (tbI 434 (by decide +kernel) rfl) (tbI 435 (by decide +kernel) rfl) (tbI 14 (by decide +kernel) rfl) code_X7_keepLive (by decide +kernel)
theorem kmX11_140 : mlV RX11 140 RX9 yX9_has cX9_has 2 (some .boolean) 1 := mlV_mk (tbI 1141 (by decide +kernel) rfl) (tbI 142 (by decide +kernel) rfl) (tbI 143 (by decide +kernel) rfl) (tbI 2 (by decide +kernel) rfl) code_X9_has (by decide +kernel)
theorem kmX11_148 : mlV RX11 148 RX2 yX2_vectorLength cX2_vectorLength 2 (some .int) 1 := mlV_mk (tbI 1151 (by decide +kernel) rfl) (tbI 934 (by decide +kernel) rfl) (tbI 935 (by decide +kernel) rfl) (tbI 10 (by decide +kernel) rfl) code_X2_vectorLength (by decide +kernel)
theorem kmX11_64 : mlV RX11 64 RX11 yX11_isWornOut cX11_isWornOut 1 (some .boolean) 0 := mlV_mk (tbI 417 (by decide +kernel) rfl) (tbI 419 (by decide +kernel) rfl) (tbS (y := yX11_isWornOut) (k := 7) 2 (by decide +kernel)) (tbI 1 (by decide +kernel) rfl) code_X11_isWornOut (by decide +kernel)
theorem kmX11_79 : mlV RX11 79 RX6 yX6_read cX6_read 2 (some .int) 1 := mlV_mk (tbI 608 (by decide +kernel) rfl) (tbI 609 (by decide +kernel) rfl) (tbI 610 (by decide +kernel) rfl) (tbI 12 (by decide +kernel) rfl) code_X6_read (by decide +kernel)
theorem kmX11_89 : mlV RX11 89 RX7 yX7_run cX7_run 5 (some .int) 1 := mlV_mk (tbI 688 (by decide +kernel) rfl) (tbI 689 (by decide +kernel) rfl) (tbI 690 (by decide +kernel) rfl) (tbI 14 (by decide +kernel) rfl) code_X7_run (by decide +kernel)
theorem kmX11_95 : mlV RX11 95 RX9 yX9_word cX9_word 2 (some .int) 1 := mlV_mk (tbI 1111 (by decide +kernel) rfl) (tbI 853 (by decide +kernel) rfl) (tbI 854 (by decide +kernel) rfl) (tbI 2 (by decide +kernel) rfl) code_X9_word (by decide +kernel)
theorem kmX1_102 : mlV RX1 102 RX1 yX1_choice cX1_choice 7 (some .boolean) 2 := mlV_mk (tbI 748 (by decide +kernel) rfl) (tbI 750 (by decide +kernel) rfl) (tbS (y := yX1_choice) (k := 5) 23 (by decide +kernel)) (tbI 17 (by decide +kernel) rfl) code_X1_choice (by decide +kernel)
theorem kmX1_105 : mlV RX1 105 RX1 yX1_body cX1_body 6 (some .boolean) 2 := mlV_mk (tbI 760 (by decide +kernel) rfl) (tbI 762 (by decide +kernel) rfl) (tbS (y := yX1_body) (k := 5) 26 (by decide +kernel)) (tbI 17 (by decide +kernel) rfl) code_X1_body (by decide +kernel)
theorem kmX1_108 : mlV RX1 108 RX1 yX1_setting cX1_setting 4 (some .boolean) 2 := mlV_mk (tbI 764 (by decide +kernel) rfl) (tbI 766 (by decide +kernel) rfl) (tbS (y := yX1_setting) (k := 5) 27 (by decide +kernel)) (tbI 17 (by decide +kernel) rfl) code_X1_setting (by decide +kernel)
theorem kmX1_111 : mlV RX1 111 RX1 yX1_loop cX1_loop 6 (some .boolean) 2 := mlV_mk (tbI 784 (by decide +kernel) rfl) (tbI 786 (by decide +kernel) rfl) (tbS (y := yX1_loop) (k := 5) 30 (by decide +kernel)) (tbI 17 (by decide +kernel) rfl) code_X1_loop (by decide +kernel)
theorem kmX1_114 : mlV RX1 114 RX1 yX1_closure cX1_closure 6 (some .boolean) 2 := mlV_mk (tbI 788 (by decide +kernel) rfl) (tbI 790 (by decide +kernel) rfl) (tbS (y := yX1_closure) (k := 5) 31 (by decide +kernel)) (tbI 17 (by decide +kernel) rfl) code_X1_closure (by decide +kernel)
theorem kmX1_117 : mlV RX1 117 RX1 yX1_catching cX1_catching 5 (some .boolean) 2 := mlV_mk (tbI 806 (by decide +kernel) rfl) (tbI 808 (by decide +kernel) rfl) (tbS (y := yX1_catching) (k := 5) 33 (by decide +kernel)) (tbI 17 (by decide +kernel) rfl) code_X1_catching (by decide +kernel)
theorem kmX1_120 : mlV RX1 120 RX1 yX1_throwing cX1_throwing 4 (some .boolean) 2 := mlV_mk (tbI 810 (by decide +kernel) rfl) (tbI 812 (by decide +kernel) rfl) (tbS (y := yX1_throwing) (k := 5) 34 (by decide +kernel)) (tbI 17 (by decide +kernel) rfl) code_X1_throwing (by decide +kernel)
theorem kmX1_123 : mlV RX1 123 RX1 yX1_calling cX1_calling 4 (some .boolean) 2 := mlV_mk (tbI 818 (by decide +kernel) rfl) (tbI 820 (by decide +kernel) rfl) (tbS (y := yX1_calling) (k := 5) 36 (by decide +kernel)) (tbI 17 (by decide +kernel) rfl) code_X1_calling (by decide +kernel)
theorem kmX1_126 : mlV RX1 126 RX1 yX1_applying cX1_applying 5 (some .boolean) 3 := mlV_mk (tbI 822 (by decide +kernel) rfl) (tbI 824 (by decide +kernel) rfl) (tbS (y := yX1_applying) (k := 5) 37 (by decide +kernel)) (tbI 17 (by decide +kernel) rfl) code_X1_applying (by decide +kernel)
theorem kmX1_130 : mlV RX1 130 RX1 yX1_evaluations cX1_evaluations 6 (some .boolean) 2 := mlV_mk (tbI 814 (by decide +kernel) rfl) (tbI 816 (by decide +kernel) rfl) (tbS (y := yX1_evaluations) (k := 5) 35 (by decide +kernel)) (tbI 17 (by decide +kernel) rfl) code_X1_evaluations (by decide +kernel)
theorem kmX1_133 : mlV RX1 133 RX1 yX1_leap cX1_leap 2 (some .int) 1 := mlV_mk (tbI 752 (by decide +kernel) rfl) (tbI 754 (by decide +kernel) rfl) (tbS (y := yX1_leap) (k := 5) 24 (by decide +kernel)) (tbI 17 (by decide +kernel) rfl) code_X1_leap (by decide +kernel)
theorem kmX1_136 : mlV RX1 136 RX1 yX1_land cX1_land 2 none 1 := mlV_mk (tbI 756 (by decide +kernel) rfl) (tbI 758 (by decide +kernel) rfl) (tbS (y := yX1_land) (k := 5) 25 (by decide +kernel)) (tbI 17 (by decide +kernel) rfl) code_X1_land (by decide +kernel)
theorem kmX1_139 : mlV RX1 139 RX1 yX1_areParameters cX1_areParameters 6 (some .boolean) 1 := mlV_mk (tbI 792 (by decide +kernel) rfl) (tbI 794 (by decide +kernel) rfl) (tbS (y := yX1_areParameters) (k := 5) 32 (by decide +kernel)) (tbI 17 (by decide +kernel) rfl) code_X1_areParameters (by decide +kernel)
theorem kmX1_143 : mlV RX1 143 RX8 yX8_push cX8_push 2 none 1 := mlV_mk (tbI 796 (by decide +kernel) rfl) (tbI 797 (by decide +kernel) rfl) (tbI 798 (by decide +kernel) rfl) (tbI 16 (by decide +kernel) rfl) code_X8_push (by decide +kernel)
theorem kmX1_146 : mlV RX1 146 RX8 yX8_pop cX8_pop 2 (some .int) 0 := mlV_mk (tbI 800 (by decide +kernel) rfl) (tbI 801 (by decide +kernel) rfl) (tbI 802 (by decide +kernel) rfl) (tbI 16 (by decide +kernel) rfl) code_X8_pop (by decide +kernel)
theorem kmX1_149 : mlV RX1 149 RX1 yX1_indexIn cX1_indexIn 5 (some .int) 2 := mlV_mk (tbI 780 (by decide +kernel) rfl) (tbI 782 (by decide +kernel) rfl) (tbS (y := yX1_indexIn) (k := 5) 29 (by decide +kernel)) (tbI 17 (by decide +kernel) rfl) code_X1_indexIn (by decide +kernel)
theorem kmX1_156 : mlV RX1 156 RX8 yX8_peek cX8_peek 2 (some .int) 1 := mlV_mk (tbI 772 (by decide +kernel) rfl) (tbI 773 (by decide +kernel) rfl) (tbI 774 (by decide +kernel) rfl) (tbI 16 (by decide +kernel) rfl) code_X8_peek (by decide +kernel)
theorem kmX1_36 : mlV RX1 36 RX8 yX8_cut cX8_cut 2 none 1 := mlV_mk (tbI 696 (by decide +kernel) rfl) (tbI 697 (by decide +kernel) rfl) (tbI 698 (by decide +kernel) rfl) (tbI 16 (by decide +kernel) rfl) code_X8_cut (by decide +kernel)
theorem kmX1_39 : mlV RX1 39 RX1 yX1_evaluation cX1_evaluation 3 (some .boolean) 2 := mlV_mk (tbI 700 (by decide +kernel) rfl) (tbI 702 (by decide +kernel) rfl) (tbS (y := yX1_evaluation) (k := 5) 19 (by decide +kernel)) (tbI 17 (by decide +kernel) rfl) code_X1_evaluation (by decide +kernel)
theorem kmX1_43 : mlV RX1 43 RX1 yX1_emit cX1_emit 2 none 1 := mlV_mk (tbI 704 (by decide +kernel) rfl) (tbI 706 (by decide +kernel) rfl) (tbS (y := yX1_emit) (k := 5) 20 (by decide +kernel)) (tbI 17 (by decide +kernel) rfl) code_X1_emit (by decide +kernel)
theorem kmX1_46 : mlV RX1 46 RX1 yX1_emit_ cX1_emit_ 3 none 2 := mlV_mk (tbI 744 (by decide +kernel) rfl) (tbI 746 (by decide +kernel) rfl) (tbS (y := yX1_emit_) (k := 5) 22 (by decide +kernel)) (tbI 17 (by decide +kernel) rfl) code_X1_emit_ (by decide +kernel)
theorem kmX1_55 : mlV RX1 55 RX1 yX1_list cX1_list 8 (some .boolean) 2 := mlV_mk (tbI 709 (by decide +kernel) rfl) (tbI 711 (by decide +kernel) rfl) (tbS (y := yX1_list) (k := 5) 21 (by decide +kernel)) (tbI 17 (by decide +kernel) rfl) code_X1_list (by decide +kernel)
theorem kmX1_58 : mlV RX1 58 RX1 yX1_emitFor cX1_emitFor 6 none 3 := mlV_mk (tbI 768 (by decide +kernel) rfl) (tbI 770 (by decide +kernel) rfl) (tbS (y := yX1_emitFor) (k := 5) 28 (by decide +kernel)) (tbI 17 (by decide +kernel) rfl) code_X1_emitFor (by decide +kernel)
theorem kmX1_62 : mlV RX1 62 RX2 yX2_car cX2_car 2 (some .int) 1 := mlV_mk (tbI 713 (by decide +kernel) rfl) (tbI 714 (by decide +kernel) rfl) (tbI 715 (by decide +kernel) rfl) (tbI 10 (by decide +kernel) rfl) code_X2_car (by decide +kernel)
theorem kmX1_67 : mlV RX1 67 RX2 yX2_cdr cX2_cdr 2 (some .int) 1 := mlV_mk (tbI 717 (by decide +kernel) rfl) (tbI 718 (by decide +kernel) rfl) (tbI 719 (by decide +kernel) rfl) (tbI 10 (by decide +kernel) rfl) code_X2_cdr (by decide +kernel)
theorem kmX1_73 : mlV RX1 73 RX9 yX9_operator cX9_operator 2 (some .int) 1 := mlV_mk (tbI 722 (by decide +kernel) rfl) (tbI 723 (by decide +kernel) rfl) (tbI 724 (by decide +kernel) rfl) (tbI 2 (by decide +kernel) rfl) code_X9_operator (by decide +kernel)
theorem kmX1_84 : mlV RX1 84 RX2 yX2_listLength cX2_listLength 4 (some .int) 1 := mlV_mk (tbI 731 (by decide +kernel) rfl) (tbI 732 (by decide +kernel) rfl) (tbI 733 (by decide +kernel) rfl) (tbI 10 (by decide +kernel) rfl) code_X2_listLength (by decide +kernel)
theorem kmX2_40 : mlV RX2 40 RX2 yX2_at cX2_at 2 (some .int) 1 := mlV_mk (tbI 455 (by decide +kernel) rfl) (tbI 456 (by decide +kernel) rfl) (tbI 457 (by decide +kernel) rfl) (tbI 10 (by decide +kernel) rfl) code_X2_at (by decide +kernel)
theorem kmX2_43 : mlV RX2 43 RX2 yX2_cdr cX2_cdr 2 (some .int) 1 := mlV_mk (tbI 735 (by decide +kernel) rfl) (tbI 718 (by decide +kernel) rfl) (tbI 719 (by decide +kernel) rfl) (tbI 10 (by decide +kernel) rfl) code_X2_cdr (by decide +kernel)
theorem kmX2_49 : mlV RX2 49 RX2 yX2_put cX2_put 3 none 2 := mlV_mk (tbI 464 (by decide +kernel) rfl) (tbI 465 (by decide +kernel) rfl) (tbI 466 (by decide +kernel) rfl) (tbI 10 (by decide +kernel) rfl) code_X2_put (by decide +kernel)
theorem kmX2_74 : mlV RX2 74 RX2 yX2_move cX2_move 8 (some .int) 1 := mlV_mk (tbI 445 (by decide +kernel) rfl) (tbI 447 (by decide +kernel) rfl) (tbS (y := yX2_move) (k := 12) 3 (by decide +kernel)) (tbI 10 (by decide +kernel) rfl) code_X2_move (by decide +kernel)
theorem kmX2_77 : mlV RX2 77 RX2 yX2_moveAt cX2_moveAt 4 none 2 := mlV_mk (tbI 472 (by decide +kernel) rfl) (tbI 474 (by decide +kernel) rfl) (tbS (y := yX2_moveAt) (k := 12) 5 (by decide +kernel)) (tbI 10 (by decide +kernel) rfl) code_X2_moveAt (by decide +kernel)
theorem kmX2_86 : mlV RX2 86 RX2 yX2_objectLength cX2_objectLength 3 (some .int) 2 := mlV_mk (tbI 460 (by decide +kernel) rfl) (tbI 462 (by decide +kernel) rfl) (tbS (y := yX2_objectLength) (k := 12) 4 (by decide +kernel)) (tbI 10 (by decide +kernel) rfl) code_X2_objectLength (by decide +kernel)
theorem kmX3_135 : mlV RX3 135 RX3 yX3_isNamed cX3_isNamed 4 (some .boolean) 2 := mlV_mk (tbI 99 (by decide +kernel) rfl) (tbI 101 (by decide +kernel) rfl) (tbS (y := yX3_isNamed) (k := 6) 1 (by decide +kernel)) (tbI 8 (by decide +kernel) rfl) code_X3_isNamed (by decide +kernel)
theorem kmX4_100 : mlV RX4 100 RX2 yX2_at cX2_at 2 (some .int) 1 := mlV_mk (tbI 987 (by decide +kernel) rfl) (tbI 456 (by decide +kernel) rfl) (tbI 457 (by decide +kernel) rfl) (tbI 10 (by decide +kernel) rfl) code_X2_at (by decide +kernel)
theorem kmX4_23 : mlV RX4 23 RX5 yX5_add cX5_add 3 none 1 := mlV_mk (tbI 951 (by decide +kernel) rfl) (tbI 952 (by decide +kernel) rfl) (tbI 953 (by decide +kernel) rfl) (tbI 13 (by decide +kernel) rfl) code_X5_add (by decide +kernel)
theorem kmX4_38 : mlV RX4 38 RX4 yX4_writeNumber cX4_writeNumber 4 none 1 := mlV_mk (tbI 947 (by decide +kernel) rfl) (tbI 949 (by decide +kernel) rfl) (tbS (y := yX4_writeNumber) (k := 3) 56 (by decide +kernel)) (tbI 15 (by decide +kernel) rfl) code_X4_writeNumber (by decide +kernel)
theorem kmX4_41 : mlV RX4 41 RX4 yX4_writeName cX4_writeName 3 none 1 := mlV_mk (tbI 958 (by decide +kernel) rfl) (tbI 960 (by decide +kernel) rfl) (tbS (y := yX4_writeName) (k := 3) 57 (by decide +kernel)) (tbI 15 (by decide +kernel) rfl) code_X4_writeName (by decide +kernel)
theorem kmX4_44 : mlV RX4 44 RX4 yX4_writeList cX4_writeList 5 none 2 := mlV_mk (tbI 964 (by decide +kernel) rfl) (tbI 966 (by decide +kernel) rfl) (tbS (y := yX4_writeList) (k := 3) 58 (by decide +kernel)) (tbI 15 (by decide +kernel) rfl) code_X4_writeList (by decide +kernel)
theorem kmX4_48 : mlV RX4 48 RX4 yX4_writeVector cX4_writeVector 5 none 2 := mlV_mk (tbI 982 (by decide +kernel) rfl) (tbI 984 (by decide +kernel) rfl) (tbS (y := yX4_writeVector) (k := 3) 60 (by decide +kernel)) (tbI 15 (by decide +kernel) rfl) code_X4_writeVector (by decide +kernel)
theorem kmX4_53 : mlV RX4 53 RX4 yX4_writeText cX4_writeText 3 none 1 := mlV_mk (tbI 976 (by decide +kernel) rfl) (tbI 978 (by decide +kernel) rfl) (tbS (y := yX4_writeText) (k := 3) 59 (by decide +kernel)) (tbI 15 (by decide +kernel) rfl) code_X4_writeText (by decide +kernel)
theorem kmX4_72 : mlV RX4 72 RX9 yX9_length cX9_length 2 (some .int) 1 := mlV_mk (tbI 962 (by decide +kernel) rfl) (tbI 649 (by decide +kernel) rfl) (tbI 650 (by decide +kernel) rfl) (tbI 2 (by decide +kernel) rfl) code_X9_length (by decide +kernel)
theorem kmX4_76 : mlV RX4 76 RX9 yX9_letter cX9_letter 4 (some .char) 2 := mlV_mk (tbI 963 (by decide +kernel) rfl) (tbI 653 (by decide +kernel) rfl) (tbI 654 (by decide +kernel) rfl) (tbI 2 (by decide +kernel) rfl) code_X9_letter (by decide +kernel)
theorem kmX4_80 : mlV RX4 80 RX2 yX2_car cX2_car 2 (some .int) 1 := mlV_mk (tbI 968 (by decide +kernel) rfl) (tbI 714 (by decide +kernel) rfl) (tbI 715 (by decide +kernel) rfl) (tbI 10 (by decide +kernel) rfl) code_X2_car (by decide +kernel)
theorem kmX4_85 : mlV RX4 85 RX4 yX4_write cX4_write 3 none 2 := mlV_mk (tbI 969 (by decide +kernel) rfl) (tbI 942 (by decide +kernel) rfl) (tbI 943 (by decide +kernel) rfl) (tbI 15 (by decide +kernel) rfl) code_X4_write (by decide +kernel)
theorem kmX4_88 : mlV RX4 88 RX2 yX2_cdr cX2_cdr 2 (some .int) 1 := mlV_mk (tbI 970 (by decide +kernel) rfl) (tbI 718 (by decide +kernel) rfl) (tbI 719 (by decide +kernel) rfl) (tbI 10 (by decide +kernel) rfl) code_X2_cdr (by decide +kernel)
theorem kmX4_91 : mlV RX4 91 RX5 yX5_isFull cX5_isFull 1 (some .boolean) 0 := mlV_mk (tbI 971 (by decide +kernel) rfl) (tbI 972 (by decide +kernel) rfl) (tbI 973 (by decide +kernel) rfl) (tbI 13 (by decide +kernel) rfl) code_X5_isFull (by decide +kernel)
theorem kmX4_97 : mlV RX4 97 RX2 yX2_vectorLength cX2_vectorLength 2 (some .int) 1 := mlV_mk (tbI 986 (by decide +kernel) rfl) (tbI 934 (by decide +kernel) rfl) (tbI 935 (by decide +kernel) rfl) (tbI 10 (by decide +kernel) rfl) code_X2_vectorLength (by decide +kernel)
theorem kmX6_102 : mlV RX6 102 RX6 yX6_firstDigit cX6_firstDigit 1 (some .int) 0 := mlV_mk (tbI 628 (by decide +kernel) rfl) (tbI 630 (by decide +kernel) rfl) (tbS (y := yX6_firstDigit) (k := 9) 11 (by decide +kernel)) (tbI 12 (by decide +kernel) rfl) code_X6_firstDigit (by decide +kernel)
theorem kmX6_108 : mlV RX6 108 RX6 yX6_isQuoteOpen cX6_isQuoteOpen 1 (some .boolean) 0 := mlV_mk (tbI 660 (by decide +kernel) rfl) (tbI 662 (by decide +kernel) rfl) (tbS (y := yX6_isQuoteOpen) (k := 9) 15 (by decide +kernel)) (tbI 12 (by decide +kernel) rfl) code_X6_isQuoteOpen (by decide +kernel)
theorem kmX6_111 : mlV RX6 111 RX2 yX2_keepRead cX2_keepRead 1 none 0 := mlV_mk (tbI 683 (by decide +kernel) rfl) (tbI 684 (by decide +kernel) rfl) (tbI 685 (by decide +kernel) rfl) (tbI 10 (by decide +kernel) rfl) code_X2_keepRead (by decide +kernel)
theorem kmX6_114 : mlV RX6 114 RX2 yX2_readCell cX2_readCell 4 (some .int) 2 := mlV_mk (tbI 664 (by decide +kernel) rfl) (tbI 665 (by decide +kernel) rfl) (tbI 666 (by decide +kernel) rfl) (tbI 10 (by decide +kernel) rfl) code_X2_readCell (by decide +kernel)
theorem kmX6_121 : mlV RX6 121 RX2 yX2_put cX2_put 3 none 2 := mlV_mk (tbI 669 (by decide +kernel) rfl) (tbI 465 (by decide +kernel) rfl) (tbI 466 (by decide +kernel) rfl) (tbI 10 (by decide +kernel) rfl) code_X2_put (by decide +kernel)
theorem kmX6_47 : mlV RX6 47 RX6 yX6_addLetter cX6_addLetter 2 none 1 := mlV_mk (tbI 612 (by decide +kernel) rfl) (tbI 614 (by decide +kernel) rfl) (tbS (y := yX6_addLetter) (k := 9) 7 (by decide +kernel)) (tbI 12 (by decide +kernel) rfl) code_X6_addLetter (by decide +kernel)
theorem kmX6_51 : mlV RX6 51 RX6 yX6_endAtom cX6_endAtom 2 (some .boolean) 0 := mlV_mk (tbI 616 (by decide +kernel) rfl) (tbI 618 (by decide +kernel) rfl) (tbS (y := yX6_endAtom) (k := 9) 8 (by decide +kernel)) (tbI 12 (by decide +kernel) rfl) code_X6_endAtom (by decide +kernel)
theorem kmX6_55 : mlV RX6 55 RX6 yX6_refuse cX6_refuse 1 (some .int) 0 := mlV_mk (tbI 670 (by decide +kernel) rfl) (tbI 672 (by decide +kernel) rfl) (tbS (y := yX6_refuse) (k := 9) 16 (by decide +kernel)) (tbI 12 (by decide +kernel) rfl) code_X6_refuse (by decide +kernel)
theorem kmX6_59 : mlV RX6 59 RX6 yX6_openOne cX6_openOne 2 (some .int) 1 := mlV_mk (tbI 675 (by decide +kernel) rfl) (tbI 677 (by decide +kernel) rfl) (tbS (y := yX6_openOne) (k := 9) 17 (by decide +kernel)) (tbI 12 (by decide +kernel) rfl) code_X6_openOne (by decide +kernel)
theorem kmX6_66 : mlV RX6 66 RX6 yX6_close cX6_close 2 (some .int) 0 := mlV_mk (tbI 679 (by decide +kernel) rfl) (tbI 681 (by decide +kernel) rfl) (tbS (y := yX6_close) (k := 9) 18 (by decide +kernel)) (tbI 12 (by decide +kernel) rfl) code_X6_close (by decide +kernel)
theorem kmX6_72 : mlV RX6 72 RX2 yX2_dropRead cX2_dropRead 1 none 0 := mlV_mk (tbI 425 (by decide +kernel) rfl) (tbI 426 (by decide +kernel) rfl) (tbI 427 (by decide +kernel) rfl) (tbI 10 (by decide +kernel) rfl) code_X2_dropRead (by decide +kernel)
theorem kmX6_77 : mlV RX6 77 RX6 yX6_drop cX6_drop 2 (some .int) 0 := mlV_mk (tbI 674 (by decide +kernel) rfl) (tbI 422 (by decide +kernel) rfl) (tbI 423 (by decide +kernel) rfl) (tbI 12 (by decide +kernel) rfl) code_X6_drop (by decide +kernel)
theorem kmX6_80 : mlV RX6 80 RX6 yX6_atomWord cX6_atomWord 2 (some .int) 0 := mlV_mk (tbI 620 (by decide +kernel) rfl) (tbI 622 (by decide +kernel) rfl) (tbS (y := yX6_atomWord) (k := 9) 9 (by decide +kernel)) (tbI 12 (by decide +kernel) rfl) code_X6_atomWord (by decide +kernel)
theorem kmX6_83 : mlV RX6 83 RX6 yX6_addValue cX6_addValue 5 none 1 := mlV_mk (tbI 656 (by decide +kernel) rfl) (tbI 658 (by decide +kernel) rfl) (tbS (y := yX6_addValue) (k := 9) 14 (by decide +kernel)) (tbI 12 (by decide +kernel) rfl) code_X6_addValue (by decide +kernel)
theorem kmX6_86 : mlV RX6 86 RX6 yX6_isNumber cX6_isNumber 3 (some .boolean) 0 := mlV_mk (tbI 624 (by decide +kernel) rfl) (tbI 626 (by decide +kernel) rfl) (tbS (y := yX6_isNumber) (k := 9) 10 (by decide +kernel)) (tbI 12 (by decide +kernel) rfl) code_X6_isNumber (by decide +kernel)
theorem kmX6_89 : mlV RX6 89 RX6 yX6_numberWord cX6_numberWord 5 (some .int) 0 := mlV_mk (tbI 632 (by decide +kernel) rfl) (tbI 634 (by decide +kernel) rfl) (tbS (y := yX6_numberWord) (k := 9) 12 (by decide +kernel)) (tbI 12 (by decide +kernel) rfl) code_X6_numberWord (by decide +kernel)
theorem kmX6_92 : mlV RX6 92 RX9 yX9_numbered cX9_numbered 4 (some .int) 2 := mlV_mk (tbI 640 (by decide +kernel) rfl) (tbI 641 (by decide +kernel) rfl) (tbI 642 (by decide +kernel) rfl) (tbI 2 (by decide +kernel) rfl) code_X9_numbered (by decide +kernel)
theorem kmX7_102 : mlV RX7 102 RX9 yX9_setWord cX9_setWord 3 none 2 := mlV_mk (tbI 857 (by decide +kernel) rfl) (tbI 138 (by decide +kernel) rfl) (tbI 139 (by decide +kernel) rfl) (tbI 2 (by decide +kernel) rfl) code_X9_setWord (by decide +kernel)
theorem kmX7_109 : mlV RX7 109 RX8 yX8_cut cX8_cut 2 none 1 := mlV_mk (tbI 1015 (by decide +kernel) rfl) (tbI 697 (by decide +kernel) rfl) (tbI 698 (by decide +kernel) rfl) (tbI 16 (by decide +kernel) rfl) code_X8_cut (by decide +kernel)
theorem kmX7_112 : mlV RX7 112 RX2 yX2_startMove cX2_startMove 1 none 0 := mlV_mk (tbI 437 (by decide +kernel) rfl) (tbI 438 (by decide +kernel) rfl) (tbI 439 (by decide +kernel) rfl) (tbI 10 (by decide +kernel) rfl) code_X2_startMove (by decide +kernel)
theorem kmX7_122 : mlV RX7 122 RX2 yX2_moveRow cX2_moveRow 4 none 2 := mlV_mk (tbI 441 (by decide +kernel) rfl) (tbI 442 (by decide +kernel) rfl) (tbI 443 (by decide +kernel) rfl) (tbI 10 (by decide +kernel) rfl) code_X2_moveRow (by decide +kernel)
theorem kmX7_130 : mlV RX7 130 RX2 yX2_endMove cX2_endMove 2 none 0 := mlV_mk (tbI 468 (by decide +kernel) rfl) (tbI 469 (by decide +kernel) rfl) (tbI 470 (by decide +kernel) rfl) (tbI 10 (by decide +kernel) rfl) code_X2_endMove (by decide +kernel)
theorem kmX7_133 : mlV RX7 133 RX1 yX1_at cX1_at 2 (some .int) 1 := mlV_mk (tbI 839 (by decide +kernel) rfl) (tbI 840 (by decide +kernel) rfl) (tbI 841 (by decide +kernel) rfl) (tbI 17 (by decide +kernel) rfl) code_X1_at (by decide +kernel)
theorem kmX7_136 : mlV RX7 136 RX7 yX7_operand cX7_operand 2 (some .int) 0 := mlV_mk (tbI 835 (by decide +kernel) rfl) (tbI 837 (by decide +kernel) rfl) (tbS (y := yX7_operand) (k := 16) 40 (by decide +kernel)) (tbI 14 (by decide +kernel) rfl) code_X7_operand (by decide +kernel)
theorem kmX7_140 : mlV RX7 140 RX7 yX7_countStep cX7_countStep 1 none 0 := mlV_mk (tbI 843 (by decide +kernel) rfl) (tbI 845 (by decide +kernel) rfl) (tbS (y := yX7_countStep) (k := 16) 41 (by decide +kernel)) (tbI 14 (by decide +kernel) rfl) code_X7_countStep (by decide +kernel)
theorem kmX7_143 : mlV RX7 143 RX8 yX8_push cX8_push 2 none 1 := mlV_mk (tbI 847 (by decide +kernel) rfl) (tbI 797 (by decide +kernel) rfl) (tbI 798 (by decide +kernel) rfl) (tbI 16 (by decide +kernel) rfl) code_X8_push (by decide +kernel)
theorem kmX7_146 : mlV RX7 146 RX7 yX7_pushOwn cX7_pushOwn 3 none 1 := mlV_mk (tbI 848 (by decide +kernel) rfl) (tbI 850 (by decide +kernel) rfl) (tbS (y := yX7_pushOwn) (k := 16) 42 (by decide +kernel)) (tbI 14 (by decide +kernel) rfl) code_X7_pushOwn (by decide +kernel)
theorem kmX7_149 : mlV RX7 149 RX7 yX7_addressOf cX7_addressOf 4 (some .int) 1 := mlV_mk (tbI 858 (by decide +kernel) rfl) (tbI 860 (by decide +kernel) rfl) (tbS (y := yX7_addressOf) (k := 16) 43 (by decide +kernel)) (tbI 14 (by decide +kernel) rfl) code_X7_addressOf (by decide +kernel)
theorem kmX7_152 : mlV RX7 152 RX2 yX2_at cX2_at 2 (some .int) 1 := mlV_mk (tbI 867 (by decide +kernel) rfl) (tbI 456 (by decide +kernel) rfl) (tbI 457 (by decide +kernel) rfl) (tbI 10 (by decide +kernel) rfl) code_X2_at (by decide +kernel)
theorem kmX7_153 : mlV RX7 153 RX2 yX2_put cX2_put 3 none 2 := mlV_mk (tbI 868 (by decide +kernel) rfl) (tbI 465 (by decide +kernel) rfl) (tbI 466 (by decide +kernel) rfl) (tbI 10 (by decide +kernel) rfl) code_X2_put (by decide +kernel)
theorem kmX7_156 : mlV RX7 156 RX8 yX8_pop cX8_pop 2 (some .int) 0 := mlV_mk (tbI 869 (by decide +kernel) rfl) (tbI 801 (by decide +kernel) rfl) (tbI 802 (by decide +kernel) rfl) (tbI 16 (by decide +kernel) rfl) code_X8_pop (by decide +kernel)
theorem kmX7_159 : mlV RX7 159 RX7 yX7_jumpIfNil cX7_jumpIfNil 2 none 1 := mlV_mk (tbI 870 (by decide +kernel) rfl) (tbI 872 (by decide +kernel) rfl) (tbS (y := yX7_jumpIfNil) (k := 16) 45 (by decide +kernel)) (tbI 14 (by decide +kernel) rfl) code_X7_jumpIfNil (by decide +kernel)
theorem kmX7_167 : mlV RX7 167 RX7 yX7_answerOf cX7_answerOf 5 (some .int) 2 := mlV_mk (tbI 875 (by decide +kernel) rfl) (tbI 877 (by decide +kernel) rfl) (tbS (y := yX7_answerOf) (k := 16) 46 (by decide +kernel)) (tbI 14 (by decide +kernel) rfl) code_X7_answerOf (by decide +kernel)
theorem kmX7_171 : mlV RX7 171 RX7 yX7_settle cX7_settle 3 none 2 := mlV_mk (tbI 1011 (by decide +kernel) rfl) (tbI 1013 (by decide +kernel) rfl) (tbS (y := yX7_settle) (k := 16) 64 (by decide +kernel)) (tbI 14 (by decide +kernel) rfl) code_X7_settle (by decide +kernel)
theorem kmX7_174 : mlV RX7 174 RX7 yX7_advanceControl cX7_advanceControl 2 none 1 := mlV_mk (tbI 1016 (by decide +kernel) rfl) (tbI 1018 (by decide +kernel) rfl) (tbS (y := yX7_advanceControl) (k := 16) 65 (by decide +kernel)) (tbI 14 (by decide +kernel) rfl) code_X7_advanceControl (by decide +kernel)
theorem kmX7_177 : mlV RX7 177 RX7 yX7_makeClosure cX7_makeClosure 3 none 1 := mlV_mk (tbI 1020 (by decide +kernel) rfl) (tbI 1022 (by decide +kernel) rfl) (tbS (y := yX7_makeClosure) (k := 16) 66 (by decide +kernel)) (tbI 14 (by decide +kernel) rfl) code_X7_makeClosure (by decide +kernel)
theorem kmX7_180 : mlV RX7 180 RX7 yX7_enter cX7_enter 6 none 1 := mlV_mk (tbI 1024 (by decide +kernel) rfl) (tbI 1026 (by decide +kernel) rfl) (tbS (y := yX7_enter) (k := 16) 67 (by decide +kernel)) (tbI 14 (by decide +kernel) rfl) code_X7_enter (by decide +kernel)
theorem kmX7_188 : mlV RX7 188 RX7 yX7_beginCatch cX7_beginCatch 3 none 1 := mlV_mk (tbI 1029 (by decide +kernel) rfl) (tbI 1031 (by decide +kernel) rfl) (tbS (y := yX7_beginCatch) (k := 16) 68 (by decide +kernel)) (tbI 14 (by decide +kernel) rfl) code_X7_beginCatch (by decide +kernel)
theorem kmX7_191 : mlV RX7 191 RX7 yX7_throwValue cX7_throwValue 4 none 0 := mlV_mk (tbI 1033 (by decide +kernel) rfl) (tbI 1035 (by decide +kernel) rfl) (tbS (y := yX7_throwValue) (k := 16) 69 (by decide +kernel)) (tbI 14 (by decide +kernel) rfl) code_X7_throwValue (by decide +kernel)
theorem kmX7_194 : mlV RX7 194 RX9 yX9_word cX9_word 2 (some .int) 1 := mlV_mk (tbI 852 (by decide +kernel) rfl) (tbI 853 (by decide +kernel) rfl) (tbI 854 (by decide +kernel) rfl) (tbI 2 (by decide +kernel) rfl) code_X9_word (by decide +kernel)
theorem kmX7_197 : mlV RX7 197 RX7 yX7_frameHere cX7_frameHere 1 (some .int) 0 := mlV_mk (tbI 862 (by decide +kernel) rfl) (tbI 864 (by decide +kernel) rfl) (tbS (y := yX7_frameHere) (k := 16) 44 (by decide +kernel)) (tbI 14 (by decide +kernel) rfl) code_X7_frameHere (by decide +kernel)
theorem kmX7_200 : mlV RX7 200 RX7 yX7_isRoomFor cX7_isRoomFor 2 (some .boolean) 1 := mlV_mk (tbI 894 (by decide +kernel) rfl) (tbI 896 (by decide +kernel) rfl) (tbS (y := yX7_isRoomFor) (k := 16) 50 (by decide +kernel)) (tbI 14 (by decide +kernel) rfl) code_X7_isRoomFor (by decide +kernel)
theorem kmX7_203 : mlV RX7 203 RX2 yX2_make cX2_make 3 (some .int) 1 := mlV_mk (tbI 902 (by decide +kernel) rfl) (tbI 903 (by decide +kernel) rfl) (tbI 904 (by decide +kernel) rfl) (tbI 10 (by decide +kernel) rfl) code_X2_make (by decide +kernel)
theorem kmX7_218 : mlV RX7 218 RX8 yX8_at cX8_at 2 (some .int) 1 := mlV_mk (tbI 1037 (by decide +kernel) rfl) (tbI 777 (by decide +kernel) rfl) (tbI 778 (by decide +kernel) rfl) (tbI 16 (by decide +kernel) rfl) code_X8_at (by decide +kernel)
theorem kmX7_227 : mlV RX7 227 RX7 yX7_partOf cX7_partOf 3 (some .int) 2 := mlV_mk (tbI 881 (by decide +kernel) rfl) (tbI 883 (by decide +kernel) rfl) (tbS (y := yX7_partOf) (k := 16) 47 (by decide +kernel)) (tbI 14 (by decide +kernel) rfl) code_X7_partOf (by decide +kernel)
theorem kmX7_230 : mlV RX7 230 RX7 yX7_newCell cX7_newCell 4 (some .int) 2 := mlV_mk (tbI 890 (by decide +kernel) rfl) (tbI 892 (by decide +kernel) rfl) (tbS (y := yX7_newCell) (k := 16) 49 (by decide +kernel)) (tbI 14 (by decide +kernel) rfl) code_X7_newCell (by decide +kernel)
theorem kmX7_233 : mlV RX7 233 RX7 yX7_newList cX7_newList 5 (some .int) 1 := mlV_mk (tbI 907 (by decide +kernel) rfl) (tbI 909 (by decide +kernel) rfl) (tbS (y := yX7_newList) (k := 16) 51 (by decide +kernel)) (tbI 14 (by decide +kernel) rfl) code_X7_newList (by decide +kernel)
theorem kmX7_236 : mlV RX7 236 RX7 yX7_replaced cX7_replaced 4 (some .int) 3 := mlV_mk (tbI 911 (by decide +kernel) rfl) (tbI 913 (by decide +kernel) rfl) (tbS (y := yX7_replaced) (k := 16) 52 (by decide +kernel)) (tbI 14 (by decide +kernel) rfl) code_X7_replaced (by decide +kernel)
theorem kmX7_244 : mlV RX7 244 RX7 yX7_newVector cX7_newVector 6 (some .int) 2 := mlV_mk (tbI 925 (by decide +kernel) rfl) (tbI 927 (by decide +kernel) rfl) (tbS (y := yX7_newVector) (k := 16) 53 (by decide +kernel)) (tbI 14 (by decide +kernel) rfl) code_X7_newVector (by decide +kernel)
theorem kmX7_247 : mlV RX7 247 RX7 yX7_indexed cX7_indexed 4 (some .int) 2 := mlV_mk (tbI 929 (by decide +kernel) rfl) (tbI 931 (by decide +kernel) rfl) (tbS (y := yX7_indexed) (k := 16) 54 (by decide +kernel)) (tbI 14 (by decide +kernel) rfl) code_X7_indexed (by decide +kernel)
theorem kmX7_250 : mlV RX7 250 RX7 yX7_lengthOf cX7_lengthOf 2 (some .int) 1 := mlV_mk (tbI 937 (by decide +kernel) rfl) (tbI 939 (by decide +kernel) rfl) (tbS (y := yX7_lengthOf) (k := 16) 55 (by decide +kernel)) (tbI 14 (by decide +kernel) rfl) code_X7_lengthOf (by decide +kernel)
theorem kmX7_253 : mlV RX7 253 RX4 yX4_write cX4_write 3 none 2 := mlV_mk (tbI 941 (by decide +kernel) rfl) (tbI 942 (by decide +kernel) rfl) (tbI 943 (by decide +kernel) rfl) (tbI 15 (by decide +kernel) rfl) code_X4_write (by decide +kernel)
theorem kmX7_258 : mlV RX7 258 RX4 yX4_endLine cX4_endLine 1 none 0 := mlV_mk (tbI 989 (by decide +kernel) rfl) (tbI 990 (by decide +kernel) rfl) (tbI 991 (by decide +kernel) rfl) (tbI 15 (by decide +kernel) rfl) code_X4_endLine (by decide +kernel)
theorem kmX7_264 : mlV RX7 264 RX5 yX5_removeOldest cX5_removeOldest 2 (some .int) 0 := mlV_mk (tbI 993 (by decide +kernel) rfl) (tbI 994 (by decide +kernel) rfl) (tbI 995 (by decide +kernel) rfl) (tbI 13 (by decide +kernel) rfl) code_X5_removeOldest (by decide +kernel)
theorem kmX7_267 : mlV RX7 267 RX7 yX7_computed cX7_computed 6 (some .int) 3 := mlV_mk (tbI 997 (by decide +kernel) rfl) (tbI 999 (by decide +kernel) rfl) (tbS (y := yX7_computed) (k := 16) 61 (by decide +kernel)) (tbI 14 (by decide +kernel) rfl) code_X7_computed (by decide +kernel)
theorem kmX7_271 : mlV RX7 271 RX7 yX7_failing cX7_failing 2 (some .int) 1 := mlV_mk (tbI 886 (by decide +kernel) rfl) (tbI 888 (by decide +kernel) rfl) (tbS (y := yX7_failing) (k := 16) 48 (by decide +kernel)) (tbI 14 (by decide +kernel) rfl) code_X7_failing (by decide +kernel)
theorem kmX7_274 : mlV RX7 274 RX2 yX2_replace cX2_replace 3 none 2 := mlV_mk (tbI 915 (by decide +kernel) rfl) (tbI 916 (by decide +kernel) rfl) (tbI 917 (by decide +kernel) rfl) (tbI 10 (by decide +kernel) rfl) code_X2_replace (by decide +kernel)
theorem kmX7_277 : mlV RX7 277 RX2 yX2_vectorLength cX2_vectorLength 2 (some .int) 1 := mlV_mk (tbI 933 (by decide +kernel) rfl) (tbI 934 (by decide +kernel) rfl) (tbI 935 (by decide +kernel) rfl) (tbI 10 (by decide +kernel) rfl) code_X2_vectorLength (by decide +kernel)
theorem kmX7_280 : mlV RX7 280 RX7 yX7_ranged cX7_ranged 2 (some .int) 1 := mlV_mk (tbI 1001 (by decide +kernel) rfl) (tbI 1003 (by decide +kernel) rfl) (tbS (y := yX7_ranged) (k := 16) 62 (by decide +kernel)) (tbI 14 (by decide +kernel) rfl) code_X7_ranged (by decide +kernel)
theorem kmX7_283 : mlV RX7 283 RX7 yX7_shifted cX7_shifted 5 (some .int) 2 := mlV_mk (tbI 1006 (by decide +kernel) rfl) (tbI 1008 (by decide +kernel) rfl) (tbS (y := yX7_shifted) (k := 16) 63 (by decide +kernel)) (tbI 14 (by decide +kernel) rfl) code_X7_shifted (by decide +kernel)
theorem kmX7_51 : mlV RX7 51 RX1 yX1_compile cX1_compile 4 (some .int) 1 := mlV_mk (tbI 692 (by decide +kernel) rfl) (tbI 693 (by decide +kernel) rfl) (tbI 694 (by decide +kernel) rfl) (tbI 17 (by decide +kernel) rfl) code_X1_compile (by decide +kernel)
theorem kmX7_59 : mlV RX7 59 RX7 yX7_begin cX7_begin 2 none 1 := mlV_mk (tbI 826 (by decide +kernel) rfl) (tbI 828 (by decide +kernel) rfl) (tbS (y := yX7_begin) (k := 16) 38 (by decide +kernel)) (tbI 14 (by decide +kernel) rfl) code_X7_begin (by decide +kernel)
theorem kmX7_76 : mlV RX7 76 RX7 yX7_advance cX7_advance 4 none 0 := mlV_mk (tbI 831 (by decide +kernel) rfl) (tbI 833 (by decide +kernel) rfl) (tbS (y := yX7_advance) (k := 16) 39 (by decide +kernel)) (tbI 14 (by decide +kernel) rfl) code_X7_advance (by decide +kernel)
theorem kmX7_79 : mlV RX7 79 RX7 yX7_keepLive cX7_keepLive 1 none 0 := mlV_mk (tbI 1038 (by decide +kernel) rfl) (tbI 434 (by decide +kernel) rfl) (tbI 435 (by decide +kernel) rfl) (tbI 14 (by decide +kernel) rfl) code_X7_keepLive (by decide +kernel)
theorem kmX7_82 : mlV RX7 82 RX2 yX2_hasRoom cX2_hasRoom 2 (some .boolean) 1 := mlV_mk (tbI 898 (by decide +kernel) rfl) (tbI 899 (by decide +kernel) rfl) (tbI 900 (by decide +kernel) rfl) (tbI 10 (by decide +kernel) rfl) code_X2_hasRoom (by decide +kernel)
theorem kmX7_88 : mlV RX7 88 RX7 yX7_end cX7_end 1 none 0 := mlV_mk (tbI 1039 (by decide +kernel) rfl) (tbI 1041 (by decide +kernel) rfl) (tbS (y := yX7_end) (k := 16) 70 (by decide +kernel)) (tbI 14 (by decide +kernel) rfl) code_X7_end (by decide +kernel)
theorem kmX7_99 : mlV RX7 99 RX8 yX8_peek cX8_peek 2 (some .int) 1 := mlV_mk (tbI 856 (by decide +kernel) rfl) (tbI 773 (by decide +kernel) rfl) (tbI 774 (by decide +kernel) rfl) (tbI 16 (by decide +kernel) rfl) code_X8_peek (by decide +kernel)
theorem kmX8_23 : mlV RX8 23 RX8 yX8_peek cX8_peek 2 (some .int) 1 := mlV_mk (tbI 804 (by decide +kernel) rfl) (tbI 773 (by decide +kernel) rfl) (tbI 774 (by decide +kernel) rfl) (tbI 16 (by decide +kernel) rfl) code_X8_peek (by decide +kernel)
theorem kmX8_27 : mlV RX8 27 RX8 yX8_cut cX8_cut 2 none 1 := mlV_mk (tbI 805 (by decide +kernel) rfl) (tbI 697 (by decide +kernel) rfl) (tbI 698 (by decide +kernel) rfl) (tbI 16 (by decide +kernel) rfl) code_X8_cut (by decide +kernel)
theorem kmX8_31 : mlV RX8 31 RX8 yX8_at cX8_at 2 (some .int) 1 := mlV_mk (tbI 776 (by decide +kernel) rfl) (tbI 777 (by decide +kernel) rfl) (tbI 778 (by decide +kernel) rfl) (tbI 16 (by decide +kernel) rfl) code_X8_at (by decide +kernel)
theorem kmX9_31 : mlV RX9 31 RX9 yX9_add cX9_add 5 (some .int) 2 := mlV_mk (tbI 90 (by decide +kernel) rfl) (tbI 92 (by decide +kernel) rfl) (tbS (y := yX9_add) (k := 5) 0 (by decide +kernel)) (tbI 2 (by decide +kernel) rfl) code_X9_add (by decide +kernel)
theorem kmX9_45 : mlV RX9 45 RX9 yX9_setWord cX9_setWord 3 none 2 := mlV_mk (tbI 137 (by decide +kernel) rfl) (tbI 138 (by decide +kernel) rfl) (tbI 139 (by decide +kernel) rfl) (tbI 2 (by decide +kernel) rfl) code_X9_setWord (by decide +kernel)
theorem kmX9_53 : mlV RX9 53 RX9 yX9_has cX9_has 2 (some .boolean) 1 := mlV_mk (tbI 141 (by decide +kernel) rfl) (tbI 142 (by decide +kernel) rfl) (tbI 143 (by decide +kernel) rfl) (tbI 2 (by decide +kernel) rfl) code_X9_has (by decide +kernel)
theorem kmX9_57 : mlV RX9 57 RX9 yX9_isNamed cX9_isNamed 5 (some .boolean) 3 := mlV_mk (tbI 644 (by decide +kernel) rfl) (tbI 646 (by decide +kernel) rfl) (tbS (y := yX9_isNamed) (k := 5) 13 (by decide +kernel)) (tbI 2 (by decide +kernel) rfl) code_X9_isNamed (by decide +kernel)
theorem kmX9_61 : mlV RX9 61 RX9 yX9_length cX9_length 2 (some .int) 1 := mlV_mk (tbI 648 (by decide +kernel) rfl) (tbI 649 (by decide +kernel) rfl) (tbI 650 (by decide +kernel) rfl) (tbI 2 (by decide +kernel) rfl) code_X9_length (by decide +kernel)
theorem kmX9_65 : mlV RX9 65 RX9 yX9_letter cX9_letter 4 (some .char) 2 := mlV_mk (tbI 652 (by decide +kernel) rfl) (tbI 653 (by decide +kernel) rfl) (tbI 654 (by decide +kernel) rfl) (tbI 2 (by decide +kernel) rfl) code_X9_letter (by decide +kernel)
theorem kpX11_177 : fldP RX11 177 11 6 .int := ⟨_, _, _, rfl, iX11, Nat.le_of_ble_eq_true rfl, tbI 397 (by decide +kernel) rfl, rfl, by decide +kernel, ⟨tyX11, tyX11_ok⟩, nmX11⟩
theorem kpX1_32 : fldP RX1 32 2 3 .int := ⟨_, _, _, rfl, iX1, Nat.le_of_ble_eq_true rfl, tbI 325 (by decide +kernel) rfl, rfl, by decide +kernel, ⟨tyX1, tyX1_ok⟩, nmX1⟩
theorem kpX2_11 : fldP RX2 11 3 4 .int := ⟨_, _, _, rfl, iX2, Nat.le_of_ble_eq_true rfl, tbI 183 (by decide +kernel) rfl, rfl, by decide +kernel, ⟨tyX2, tyX2_ok⟩, nmX2⟩
theorem kpX2_15 : fldP RX2 15 3 6 .int := ⟨_, _, _, rfl, iX2, Nat.le_of_ble_eq_true rfl, tbI 185 (by decide +kernel) rfl, rfl, by decide +kernel, ⟨tyX2, tyX2_ok⟩, nmX2⟩
theorem kpX2_46 : fldP RX2 46 3 2 .int := ⟨_, _, _, rfl, iX2, Nat.le_of_ble_eq_true rfl, tbI 181 (by decide +kernel) rfl, rfl, by decide +kernel, ⟨tyX2, tyX2_ok⟩, nmX2⟩
theorem kpX2_56 : fldP RX2 56 3 3 .int := ⟨_, _, _, rfl, iX2, Nat.le_of_ble_eq_true rfl, tbI 182 (by decide +kernel) rfl, rfl, by decide +kernel, ⟨tyX2, tyX2_ok⟩, nmX2⟩
theorem kpX2_62 : fldP RX2 62 3 5 .int := ⟨_, _, _, rfl, iX2, Nat.le_of_ble_eq_true rfl, tbI 184 (by decide +kernel) rfl, rfl, by decide +kernel, ⟨tyX2, tyX2_ok⟩, nmX2⟩
theorem kpX2_65 : fldP RX2 65 3 9 .int := ⟨_, _, _, rfl, iX2, Nat.le_of_ble_eq_true rfl, tbI 189 (by decide +kernel) rfl, rfl, by decide +kernel, ⟨tyX2, tyX2_ok⟩, nmX2⟩
theorem kpX2_68 : fldP RX2 68 3 7 .int := ⟨_, _, _, rfl, iX2, Nat.le_of_ble_eq_true rfl, tbI 186 (by decide +kernel) rfl, rfl, by decide +kernel, ⟨tyX2, tyX2_ok⟩, nmX2⟩
theorem kpX2_71 : fldP RX2 71 3 8 .int := ⟨_, _, _, rfl, iX2, Nat.le_of_ble_eq_true rfl, tbI 187 (by decide +kernel) rfl, rfl, by decide +kernel, ⟨tyX2, tyX2_ok⟩, nmX2⟩
theorem kpX2_80 : fldP RX2 80 3 10 .int := ⟨_, _, _, rfl, iX2, Nat.le_of_ble_eq_true rfl, tbI 191 (by decide +kernel) rfl, rfl, by decide +kernel, ⟨tyX2, tyX2_ok⟩, nmX2⟩
theorem kpX2_83 : fldP RX2 83 3 11 .int := ⟨_, _, _, rfl, iX2, Nat.le_of_ble_eq_true rfl, tbI 193 (by decide +kernel) rfl, rfl, by decide +kernel, ⟨tyX2, tyX2_ok⟩, nmX2⟩
theorem kpX5_19 : fldP RX5 19 6 2 .int := ⟨_, _, _, rfl, iX5, Nat.le_of_ble_eq_true rfl, tbI 265 (by decide +kernel) rfl, rfl, by decide +kernel, ⟨tyX5, tyX5_ok⟩, nmX5⟩
theorem kpX5_23 : fldP RX5 23 6 1 .int := ⟨_, _, _, rfl, iX5, Nat.le_of_ble_eq_true rfl, tbI 264 (by decide +kernel) rfl, rfl, by decide +kernel, ⟨tyX5, tyX5_ok⟩, nmX5⟩
theorem kpX6_28 : fldP RX6 28 7 8 .int := ⟨_, _, _, rfl, iX6, Nat.le_of_ble_eq_true rfl, tbI 234 (by decide +kernel) rfl, rfl, by decide +kernel, ⟨tyX6, tyX6_ok⟩, nmX6⟩
theorem kpX6_63 : fldP RX6 63 7 7 .int := ⟨_, _, _, rfl, iX6, Nat.le_of_ble_eq_true rfl, tbI 232 (by decide +kernel) rfl, rfl, by decide +kernel, ⟨tyX6, tyX6_ok⟩, nmX6⟩
theorem kpX6_69 : fldP RX6 69 7 3 .int := ⟨_, _, _, rfl, iX6, Nat.le_of_ble_eq_true rfl, tbI 228 (by decide +kernel) rfl, rfl, by decide +kernel, ⟨tyX6, tyX6_ok⟩, nmX6⟩
theorem kpX7_106 : fldP RX7 106 8 14 .int := ⟨_, _, _, rfl, iX7, Nat.le_of_ble_eq_true rfl, tbI 354 (by decide +kernel) rfl, rfl, by decide +kernel, ⟨tyX7, tyX7_ok⟩, nmX7⟩
theorem kpX7_55 : fldP RX7 55 8 15 .int := ⟨_, _, _, rfl, iX7, Nat.le_of_ble_eq_true rfl, tbI 356 (by decide +kernel) rfl, rfl, by decide +kernel, ⟨tyX7, tyX7_ok⟩, nmX7⟩
theorem kpX7_63 : fldP RX7 63 8 9 .boolean := ⟨_, _, _, rfl, iX7, Nat.le_of_ble_eq_true rfl, tbI 347 (by decide +kernel) rfl, rfl, by decide +kernel, ⟨tyX7, tyX7_ok⟩, nmX7⟩
theorem kpX7_67 : fldP RX7 67 8 10 .int := ⟨_, _, _, rfl, iX7, Nat.le_of_ble_eq_true rfl, tbI 348 (by decide +kernel) rfl, rfl, by decide +kernel, ⟨tyX7, tyX7_ok⟩, nmX7⟩
theorem kpX7_70 : fldP RX7 70 8 8 .int := ⟨_, _, _, rfl, iX7, Nat.le_of_ble_eq_true rfl, tbI 346 (by decide +kernel) rfl, rfl, by decide +kernel, ⟨tyX7, tyX7_ok⟩, nmX7⟩
theorem kpX7_73 : fldP RX7 73 8 11 .int := ⟨_, _, _, rfl, iX7, Nat.le_of_ble_eq_true rfl, tbI 349 (by decide +kernel) rfl, rfl, by decide +kernel, ⟨tyX7, tyX7_ok⟩, nmX7⟩
theorem kpX7_91 : fldP RX7 91 8 12 .int := ⟨_, _, _, rfl, iX7, Nat.le_of_ble_eq_true rfl, tbI 350 (by decide +kernel) rfl, rfl, by decide +kernel, ⟨tyX7, tyX7_ok⟩, nmX7⟩
theorem kpX7_94 : fldP RX7 94 8 13 .int := ⟨_, _, _, rfl, iX7, Nat.le_of_ble_eq_true rfl, tbI 352 (by decide +kernel) rfl, rfl, by decide +kernel, ⟨tyX7, tyX7_ok⟩, nmX7⟩
theorem kpX8_19 : fldP RX8 19 9 1 .int := ⟨_, _, _, rfl, iX8, Nat.le_of_ble_eq_true rfl, tbI 306 (by decide +kernel) rfl, rfl, by decide +kernel, ⟨tyX8, tyX8_ok⟩, nmX8⟩
theorem kpX9_49 : fldP RX9 49 10 4 .int := ⟨_, _, _, rfl, iX9, Nat.le_of_ble_eq_true rfl, tbI 150 (by decide +kernel) rfl, rfl, by decide +kernel, ⟨tyX9, tyX9_ok⟩, nmX9⟩
theorem ksX11_118 : mlS RX11 118 yX11_isInRange cX11_isInRange 1 (some .boolean) 1 := mlS_mk (tbI 1129 (by decide +kernel) rfl) (tbI 637 (by decide +kernel) rfl) (tbI 1 (by decide +kernel) rfl) code_X11_isInRange (by decide +kernel)
theorem ksX11_145 : mlS RX11 145 yX10_held cX10_held 1 (some .int) 1 := mlS_mk (tbI 1150 (by decide +kernel) rfl) (tbI 453 (by decide +kernel) rfl) (tbI 9 (by decide +kernel) rfl) code_X10_held (by decide +kernel)
theorem ksX11_68 : mlS RX11 68 yX6_isReadable cX6_isReadable 1 (some .boolean) 1 := mlS_mk (tbI 583 (by decide +kernel) rfl) (tbI 584 (by decide +kernel) rfl) (tbI 12 (by decide +kernel) rfl) code_X6_isReadable (by decide +kernel)
theorem ksX11_92 : mlS RX11 92 yX11_raise cX11_raise 1 none 1 := mlS_mk (tbI 1043 (by decide +kernel) rfl) (tbI 1044 (by decide +kernel) rfl) (tbI 1 (by decide +kernel) rfl) code_X11_raise (by decide +kernel)
theorem ksX11_98 : mlS RX11 98 yX10_tag cX10_tag 1 (some .int) 1 := mlS_mk (tbI 1112 (by decide +kernel) rfl) (tbI 450 (by decide +kernel) rfl) (tbI 9 (by decide +kernel) rfl) code_X10_tag (by decide +kernel)
theorem ksX1_49 : mlS RX1 49 yX10_tag cX10_tag 1 (some .int) 1 := mlS_mk (tbI 708 (by decide +kernel) rfl) (tbI 450 (by decide +kernel) rfl) (tbI 9 (by decide +kernel) rfl) code_X10_tag (by decide +kernel)
theorem ksX1_70 : mlS RX1 70 yX10_held cX10_held 1 (some .int) 1 := mlS_mk (tbI 721 (by decide +kernel) rfl) (tbI 453 (by decide +kernel) rfl) (tbI 9 (by decide +kernel) rfl) code_X10_held (by decide +kernel)
theorem ksX1_78 : mlS RX1 78 yX3_at cX3_at 1 (some (.object "TagMachine$Operator")) 1 := mlS_mk (tbI 726 (by decide +kernel) rfl) (tbI 727 (by decide +kernel) rfl) (tbI 8 (by decide +kernel) rfl) code_X3_at (by decide +kernel)
theorem ksX2_33 : mlS RX2 33 yX10_tag cX10_tag 1 (some .int) 1 := mlS_mk (tbI 449 (by decide +kernel) rfl) (tbI 450 (by decide +kernel) rfl) (tbI 9 (by decide +kernel) rfl) code_X10_tag (by decide +kernel)
theorem ksX2_37 : mlS RX2 37 yX10_held cX10_held 1 (some .int) 1 := mlS_mk (tbI 452 (by decide +kernel) rfl) (tbI 453 (by decide +kernel) rfl) (tbI 9 (by decide +kernel) rfl) code_X10_held (by decide +kernel)
theorem ksX2_53 : mlS RX2 53 yX10_of cX10_of 2 (some .int) 2 := mlS_mk (tbI 459 (by decide +kernel) rfl) (tbI 135 (by decide +kernel) rfl) (tbI 9 (by decide +kernel) rfl) code_X10_of (by decide +kernel)
theorem ksX4_29 : mlS RX4 29 yX10_tag cX10_tag 1 (some .int) 1 := mlS_mk (tbI 945 (by decide +kernel) rfl) (tbI 450 (by decide +kernel) rfl) (tbI 9 (by decide +kernel) rfl) code_X10_tag (by decide +kernel)
theorem ksX4_35 : mlS RX4 35 yX10_held cX10_held 1 (some .int) 1 := mlS_mk (tbI 946 (by decide +kernel) rfl) (tbI 453 (by decide +kernel) rfl) (tbI 9 (by decide +kernel) rfl) code_X10_held (by decide +kernel)
theorem ksX6_117 : mlS RX6 117 yX10_held cX10_held 1 (some .int) 1 := mlS_mk (tbI 668 (by decide +kernel) rfl) (tbI 453 (by decide +kernel) rfl) (tbI 9 (by decide +kernel) rfl) code_X10_held (by decide +kernel)
theorem ksX6_40 : mlS RX6 40 yX6_isOfAtom cX6_isOfAtom 1 (some .boolean) 1 := mlS_mk (tbI 586 (by decide +kernel) rfl) (tbI 587 (by decide +kernel) rfl) (tbI 12 (by decide +kernel) rfl) code_X6_isOfAtom (by decide +kernel)
theorem ksX6_44 : mlS RX6 44 yX6_isDigit cX6_isDigit 1 (some .boolean) 1 := mlS_mk (tbI 589 (by decide +kernel) rfl) (tbI 590 (by decide +kernel) rfl) (tbI 12 (by decide +kernel) rfl) code_X6_isDigit (by decide +kernel)
theorem ksX6_98 : mlS RX6 98 yX10_of cX10_of 2 (some .int) 2 := mlS_mk (tbI 639 (by decide +kernel) rfl) (tbI 135 (by decide +kernel) rfl) (tbI 9 (by decide +kernel) rfl) code_X10_of (by decide +kernel)
theorem ksX7_162 : mlS RX7 162 yX3_at cX3_at 1 (some (.object "TagMachine$Operator")) 1 := mlS_mk (tbI 874 (by decide +kernel) rfl) (tbI 727 (by decide +kernel) rfl) (tbI 8 (by decide +kernel) rfl) code_X3_at (by decide +kernel)
theorem ksX7_183 : mlS RX7 183 yX10_held cX10_held 1 (some .int) 1 := mlS_mk (tbI 866 (by decide +kernel) rfl) (tbI 453 (by decide +kernel) rfl) (tbI 9 (by decide +kernel) rfl) code_X10_held (by decide +kernel)
theorem ksX7_206 : mlS RX7 206 yX10_of cX10_of 2 (some .int) 2 := mlS_mk (tbI 906 (by decide +kernel) rfl) (tbI 135 (by decide +kernel) rfl) (tbI 9 (by decide +kernel) rfl) code_X10_of (by decide +kernel)
theorem ksX7_210 : mlS RX7 210 yX10_tag cX10_tag 1 (some .int) 1 := mlS_mk (tbI 885 (by decide +kernel) rfl) (tbI 450 (by decide +kernel) rfl) (tbI 9 (by decide +kernel) rfl) code_X10_tag (by decide +kernel)
theorem ksX7_240 : mlS RX7 240 yX7_truth cX7_truth 1 (some .int) 1 := mlS_mk (tbI 922 (by decide +kernel) rfl) (tbI 923 (by decide +kernel) rfl) (tbI 14 (by decide +kernel) rfl) code_X7_truth (by decide +kernel)
theorem ksX9_41 : mlS RX9 41 yX10_of cX10_of 2 (some .int) 2 := mlS_mk (tbI 134 (by decide +kernel) rfl) (tbI 135 (by decide +kernel) rfl) (tbI 9 (by decide +kernel) rfl) code_X10_of (by decide +kernel)
theorem ksX9_69 : mlS RX9 69 yX3_indexOf cX3_indexOf 3 (some .int) 2 := mlS_mk (tbI 94 (by decide +kernel) rfl) (tbI 95 (by decide +kernel) rfl) (tbI 8 (by decide +kernel) rfl) code_X3_indexOf (by decide +kernel)
