abbrev KX0_size : MK := (yX0_size, cX0_size, 1, some .int, 0, 0)
theorem mok_X0_size : am_mok KX0_size 0 := by unfold am_mok; decide +kernel
theorem mw_X0_size : am_mw KX0_size := ⟨am_c8 (i := 16) rfl rfl, am_c2 (i := 6) rfl rfl⟩
abbrev KX0_all : MK := (yX0_all, cX0_all, 1, some .int, 0, 0)
theorem mok_X0_all : am_mok KX0_all 0 := by unfold am_mok; decide +kernel
theorem mw_X0_all : am_mw KX0_all := ⟨am_c10 (i := 9) rfl rfl, am_c2 (i := 6) rfl rfl⟩
abbrev KX0_has : MK := (yX0_has, cX0_has, 2, some .boolean, 0, 0)
theorem mok_X0_has : am_mok KX0_has 1 := by unfold am_mok; decide +kernel
theorem mw_X0_has : am_mw KX0_has := ⟨am_c8 (i := 31) rfl rfl, am_c2 (i := 6) rfl rfl⟩
abbrev KX0_atoms : MK := (yX0_atoms, cX0_atoms, 1, some (.array .int), 0, 0)
theorem mok_X0_atoms : am_mok KX0_atoms 0 := by unfold am_mok; decide +kernel
theorem mw_X0_atoms : am_mw KX0_atoms := ⟨am_c10 (i := 13) rfl rfl, am_c2 (i := 6) rfl rfl⟩
abbrev KX5_put : MK := (yX5_put, cX5_put, 3, none, 0, 0)
theorem mok_X5_put : am_mok KX5_put 3 := by unfold am_mok; decide +kernel
theorem mw_X5_put : am_mw KX5_put := ⟨am_c8 (i := 23) rfl rfl, am_c2 (i := 5) rfl rfl⟩
abbrev KX0_begin : MK := (yX0_begin, cX0_begin, 3, none, 1, 22)
theorem mok_X0_begin : am_mok KX0_begin 1 := by unfold am_mok; decide +kernel
theorem mw_X0_begin : am_mw KX0_begin := ⟨am_c8 (i := 20) rfl rfl, am_c2 (i := 6) rfl rfl⟩
abbrev KX5_at : MK := (yX5_at, cX5_at, 2, some .int, 0, 0)
theorem mok_X5_at : am_mok KX5_at 2 := by unfold am_mok; decide +kernel
theorem mw_X5_at : am_mw KX5_at := ⟨am_c9 (i := 9) rfl rfl, am_c2 (i := 5) rfl rfl⟩
abbrev KX0_let : MK := (yX0_let, cX0_let, 4, none, 1, 22)
theorem mok_X0_let : am_mok KX0_let 3 := by unfold am_mok; decide +kernel
theorem mw_X0_let : am_mw KX0_let := ⟨am_c10 (i := 1) rfl rfl, am_c2 (i := 6) rfl rfl⟩
abbrev KJ6_bitCount_0f7a4 : MK := (yJ6_bitCount_0f7a4, cJ6_bitCount_0f7a4, 1, some .int, 0, 0)
theorem mok_J6_bitCount_0f7a4 : am_mok KJ6_bitCount_0f7a4 1 := by unfold am_mok; decide +kernel
theorem mw_J6_bitCount_0f7a4 : am_mw KJ6_bitCount_0f7a4 := ⟨am_c11 (i := 10) rfl rfl, am_c2 (i := 13) rfl rfl⟩
abbrev KX0_pairs : MK := (yX0_pairs, cX0_pairs, 3, some .int, 1, 21)
theorem mok_X0_pairs : am_mok KX0_pairs 0 := by unfold am_mok; decide +kernel
theorem mw_X0_pairs : am_mw KX0_pairs := ⟨am_c23 (i := 6) rfl rfl, am_c2 (i := 6) rfl rfl⟩
abbrev KX5_bit : MK := (yX5_bit, cX5_bit, 2, some .int, 0, 0)
theorem mok_X5_bit : am_mok KX5_bit 2 := by unfold am_mok; decide +kernel
theorem mw_X5_bit : am_mw KX5_bit := ⟨am_c9 (i := 20) rfl rfl, am_c2 (i := 5) rfl rfl⟩
abbrev KX0_stepFrom : MK := (yX0_stepFrom, cX0_stepFrom, 4, some .int, 1, 21)
theorem mok_X0_stepFrom : am_mok KX0_stepFrom 1 := by unfold am_mok; decide +kernel
theorem mw_X0_stepFrom : am_mw KX0_stepFrom := ⟨am_c9 (i := 17) rfl rfl, am_c2 (i := 6) rfl rfl⟩
abbrev KX0_farFrom : MK := (yX0_farFrom, cX0_farFrom, 4, some .int, 2, 44)
theorem mok_X0_farFrom : am_mok KX0_farFrom 1 := by unfold am_mok; decide +kernel
theorem mw_X0_farFrom : am_mw KX0_farFrom := ⟨am_c9 (i := 13) rfl rfl, am_c2 (i := 6) rfl rfl⟩
abbrev KX0_stepInto : MK := (yX0_stepInto, cX0_stepInto, 4, some .int, 1, 21)
theorem mok_X0_stepInto : am_mok KX0_stepInto 1 := by unfold am_mok; decide +kernel
theorem mw_X0_stepInto : am_mw KX0_stepInto := ⟨am_c9 (i := 28) rfl rfl, am_c2 (i := 6) rfl rfl⟩
abbrev KX0_bothWaysFrom : MK := (yX0_bothWaysFrom, cX0_bothWaysFrom, 4, some .int, 2, 44)
theorem mok_X0_bothWaysFrom : am_mok KX0_bothWaysFrom 1 := by unfold am_mok; decide +kernel
theorem mw_X0_bothWaysFrom : am_mw KX0_bothWaysFrom := ⟨am_c9 (i := 24) rfl rfl, am_c2 (i := 6) rfl rfl⟩
abbrev KX0_seenBy : MK := (yX0_seenBy, cX0_seenBy, 3, some .int, 3, 67)
theorem mok_X0_seenBy : am_mok KX0_seenBy 2 := by unfold am_mok; decide +kernel
theorem mw_X0_seenBy : am_mw KX0_seenBy := ⟨am_c9 (i := 6) rfl rfl, am_c2 (i := 6) rfl rfl⟩
abbrev KX5_within : MK := (yX5_within, cX5_within, 2, some .boolean, 0, 0)
theorem mok_X5_within : am_mok KX5_within 2 := by unfold am_mok; decide +kernel
theorem mw_X5_within : am_mw KX5_within := ⟨am_c11 (i := 3) rfl rfl, am_c2 (i := 5) rfl rfl⟩
abbrev KX0_allSeeEachOther : MK := (yX0_allSeeEachOther, cX0_allSeeEachOther, 3, some .boolean, 1, 21)
theorem mok_X0_allSeeEachOther : am_mok KX0_allSeeEachOther 1 := by unfold am_mok; decide +kernel
theorem mw_X0_allSeeEachOther : am_mw KX0_allSeeEachOther := ⟨am_c11 (i := 7) rfl rfl, am_c2 (i := 6) rfl rfl⟩
abbrev KX0_kinds : MK := (yX0_kinds, cX0_kinds, 4, some .int, 2, 44)
theorem mok_X0_kinds : am_mok KX0_kinds 0 := by unfold am_mok; decide +kernel
theorem mw_X0_kinds : am_mw KX0_kinds := ⟨am_c11 (i := 0) rfl rfl, am_c2 (i := 6) rfl rfl⟩
abbrev KX0_isGrowing : MK := (yX0_isGrowing, cX0_isGrowing, 2, some .boolean, 2, 44)
theorem mok_X0_isGrowing : am_mok KX0_isGrowing 0 := by unfold am_mok; decide +kernel
theorem mw_X0_isGrowing : am_mw KX0_isGrowing := ⟨am_c21 (i := 26) rfl rfl, am_c2 (i := 6) rfl rfl⟩
abbrev KX0_allLeadInto : MK := (yX0_allLeadInto, cX0_allLeadInto, 4, some .int, 3, 67)
theorem mok_X0_allLeadInto : am_mok KX0_allLeadInto 1 := by unfold am_mok; decide +kernel
theorem mw_X0_allLeadInto : am_mw KX0_allLeadInto := ⟨am_c22 (i := 22) rfl rfl, am_c2 (i := 6) rfl rfl⟩
abbrev KX0_stepsOutOf : MK := (yX0_stepsOutOf, cX0_stepsOutOf, 5, some .int, 2, 44)
theorem mok_X0_stepsOutOf : am_mok KX0_stepsOutOf 2 := by unfold am_mok; decide +kernel
theorem mw_X0_stepsOutOf : am_mw KX0_stepsOutOf := ⟨am_c22 (i := 30) rfl rfl, am_c2 (i := 6) rfl rfl⟩
abbrev KX0_closedUp : MK := (yX0_closedUp, cX0_closedUp, 6, some .int, 1, 21)
theorem mok_X0_closedUp : am_mok KX0_closedUp 2 := by unfold am_mok; decide +kernel
theorem mw_X0_closedUp : am_mw KX0_closedUp := ⟨am_c22 (i := 14) rfl rfl, am_c2 (i := 6) rfl rfl⟩
abbrev KX0_keep : MK := (yX0_keep, cX0_keep, 4, none, 2, 46)
theorem mok_X0_keep : am_mok KX0_keep 1 := by unfold am_mok; decide +kernel
theorem mw_X0_keep : am_mw KX0_keep := ⟨am_c22 (i := 10) rfl rfl, am_c2 (i := 6) rfl rfl⟩
abbrev KX2_begin : MK := (yX2_begin, cX2_begin, 1, none, 0, 0)
theorem mok_X2_begin : am_mok KX2_begin 0 := by unfold am_mok; decide +kernel
theorem mw_X2_begin : am_mw KX2_begin := ⟨am_c12 (i := 5) rfl rfl, am_c2 (i := 10) rfl rfl⟩
abbrev KX2_signs : MK := (yX2_signs, cX2_signs, 1, some .int, 0, 0)
theorem mok_X2_signs : am_mok KX2_signs 0 := by unfold am_mok; decide +kernel
theorem mw_X2_signs : am_mw KX2_signs := ⟨am_c12 (i := 14) rfl rfl, am_c2 (i := 10) rfl rfl⟩
abbrev KX2_countSign : MK := (yX2_countSign, cX2_countSign, 1, none, 0, 0)
theorem mok_X2_countSign : am_mok KX2_countSign 0 := by unfold am_mok; decide +kernel
theorem mw_X2_countSign : am_mw KX2_countSign := ⟨am_c12 (i := 18) rfl rfl, am_c2 (i := 10) rfl rfl⟩
abbrev KX5_isAtom : MK := (yX5_isAtom, cX5_isAtom, 1, some .boolean, 0, 0)
theorem mok_X5_isAtom : am_mok KX5_isAtom 1 := by unfold am_mok; decide +kernel
theorem mw_X5_isAtom : am_mw KX5_isAtom := ⟨am_c12 (i := 25) rfl rfl, am_c2 (i := 5) rfl rfl⟩
abbrev KX5_isModal : MK := (yX5_isModal, cX5_isModal, 1, some .boolean, 0, 0)
theorem mok_X5_isModal : am_mok KX5_isModal 1 := by unfold am_mok; decide +kernel
theorem mw_X5_isModal : am_mw KX5_isModal := ⟨am_c13 (i := 2) rfl rfl, am_c2 (i := 5) rfl rfl⟩
abbrev KX5_whether : MK := (yX5_whether, cX5_whether, 1, some .int, 0, 0)
theorem mok_X5_whether : am_mok KX5_whether 1 := by unfold am_mok; decide +kernel
theorem mw_X5_whether : am_mw KX5_whether := ⟨am_c13 (i := 5) rfl rfl, am_c2 (i := 5) rfl rfl⟩
abbrev KX2_part : MK := (yX2_part, cX2_part, 6, some .int, 1, 22)
theorem mok_X2_part : am_mok KX2_part 4 := by unfold am_mok; decide +kernel
theorem mw_X2_part : am_mw KX2_part := ⟨am_c12 (i := 29) rfl rfl, am_c2 (i := 10) rfl rfl⟩
abbrev KX5_isPrefix : MK := (yX5_isPrefix, cX5_isPrefix, 1, some .boolean, 1, 20)
theorem mok_X5_isPrefix : am_mok KX5_isPrefix 1 := by unfold am_mok; decide +kernel
theorem mw_X5_isPrefix : am_mw KX5_isPrefix := ⟨am_c13 (i := 12) rfl rfl, am_c2 (i := 5) rfl rfl⟩
abbrev KX1_end : MK := (yX1_end, cX1_end, 4, none, 2, 47)
theorem mok_X1_end : am_mok KX1_end 2 := by unfold am_mok; decide +kernel
theorem mw_X1_end : am_mw KX1_end := ⟨am_c13 (i := 9) rfl rfl, am_c2 (i := 8) rfl rfl⟩
abbrev KX1_takesOne : MK := (yX1_takesOne, cX1_takesOne, 4, some .boolean, 3, 70)
theorem mok_X1_takesOne : am_mok KX1_takesOne 3 := by unfold am_mok; decide +kernel
theorem mw_X1_takesOne : am_mw KX1_takesOne := ⟨am_c12 (i := 22) rfl rfl, am_c2 (i := 8) rfl rfl⟩
abbrev KX5_isBetween : MK := (yX5_isBetween, cX5_isBetween, 1, some .boolean, 0, 0)
theorem mok_X5_isBetween : am_mok KX5_isBetween 1 := by unfold am_mok; decide +kernel
theorem mw_X5_isBetween : am_mw KX5_isBetween := ⟨am_c13 (i := 21) rfl rfl, am_c2 (i := 5) rfl rfl⟩
abbrev KX1_takesBetween : MK := (yX1_takesBetween, cX1_takesBetween, 2, some .boolean, 1, 22)
theorem mok_X1_takesBetween : am_mok KX1_takesBetween 1 := by unfold am_mok; decide +kernel
theorem mw_X1_takesBetween : am_mw KX1_takesBetween := ⟨am_c13 (i := 18) rfl rfl, am_c2 (i := 8) rfl rfl⟩
abbrev KX1_takesClosing : MK := (yX1_takesClosing, cX1_takesClosing, 3, some .boolean, 3, 70)
theorem mok_X1_takesClosing : am_mok KX1_takesClosing 2 := by unfold am_mok; decide +kernel
theorem mw_X1_takesClosing : am_mw KX1_takesClosing := ⟨am_c13 (i := 25) rfl rfl, am_c2 (i := 8) rfl rfl⟩
abbrev KX1_takes : MK := (yX1_takes, cX1_takes, 4, some .boolean, 4, 93)
theorem mok_X1_takes : am_mok KX1_takes 3 := by unfold am_mok; decide +kernel
theorem mw_X1_takes : am_mw KX1_takes := ⟨am_c12 (i := 10) rfl rfl, am_c2 (i := 8) rfl rfl⟩
abbrev KX1_fault : MK := (yX1_fault, cX1_fault, 5, some .int, 5, 116)
theorem mok_X1_fault : am_mok KX1_fault 3 := by unfold am_mok; decide +kernel
theorem mw_X1_fault : am_mw KX1_fault := ⟨am_c12 (i := 1) rfl rfl, am_c2 (i := 8) rfl rfl⟩
abbrev KX2_parts : MK := (yX2_parts, cX2_parts, 1, some .int, 0, 0)
theorem mok_X2_parts : am_mok KX2_parts 0 := by unfold am_mok; decide +kernel
theorem mw_X2_parts : am_mw KX2_parts := ⟨am_c14 (i := 13) rfl rfl, am_c2 (i := 10) rfl rfl⟩
abbrev KX2_sign : MK := (yX2_sign, cX2_sign, 2, some .int, 1, 21)
theorem mok_X2_sign : am_mok KX2_sign 1 := by unfold am_mok; decide +kernel
theorem mw_X2_sign : am_mw KX2_sign := ⟨am_c15 (i := 16) rfl rfl, am_c2 (i := 10) rfl rfl⟩
abbrev KX2_first : MK := (yX2_first, cX2_first, 2, some .int, 1, 21)
theorem mok_X2_first : am_mok KX2_first 1 := by unfold am_mok; decide +kernel
theorem mw_X2_first : am_mw KX2_first := ⟨am_c15 (i := 20) rfl rfl, am_c2 (i := 10) rfl rfl⟩
abbrev KX2_second : MK := (yX2_second, cX2_second, 2, some .int, 1, 21)
theorem mok_X2_second : am_mok KX2_second 1 := by unfold am_mok; decide +kernel
theorem mw_X2_second : am_mw KX2_second := ⟨am_c15 (i := 25) rfl rfl, am_c2 (i := 10) rfl rfl⟩
abbrev KX2_place : MK := (yX2_place, cX2_place, 2, some .int, 1, 21)
theorem mok_X2_place : am_mok KX2_place 1 := by unfold am_mok; decide +kernel
theorem mw_X2_place : am_mw KX2_place := ⟨am_c17 (i := 13) rfl rfl, am_c2 (i := 10) rfl rfl⟩
abbrev KX2_depth : MK := (yX2_depth, cX2_depth, 1, some .int, 1, 21)
theorem mok_X2_depth : am_mok KX2_depth 0 := by unfold am_mok; decide +kernel
theorem mw_X2_depth : am_mw KX2_depth := ⟨am_c14 (i := 9) rfl rfl, am_c2 (i := 10) rfl rfl⟩
abbrev KX2_isPlain : MK := (yX2_isPlain, cX2_isPlain, 1, some .boolean, 2, 41)
theorem mok_X2_isPlain : am_mok KX2_isPlain 0 := by unfold am_mok; decide +kernel
theorem mw_X2_isPlain : am_mw KX2_isPlain := ⟨am_c14 (i := 22) rfl rfl, am_c2 (i := 10) rfl rfl⟩
abbrev KX2_atoms : MK := (yX2_atoms, cX2_atoms, 3, some .int, 1, 21)
theorem mok_X2_atoms : am_mok KX2_atoms 0 := by unfold am_mok; decide +kernel
theorem mw_X2_atoms : am_mw KX2_atoms := ⟨am_c14 (i := 17) rfl rfl, am_c2 (i := 10) rfl rfl⟩
abbrev KX2_become : MK := (yX2_become, cX2_become, 3, none, 1, 22)
theorem mok_X2_become : am_mok KX2_become 1 := by unfold am_mok; decide +kernel
theorem mw_X2_become : am_mw KX2_become := ⟨am_c13 (i := 29) rfl rfl, am_c2 (i := 10) rfl rfl⟩
abbrev KX2_movedTo : MK := (yX2_movedTo, cX2_movedTo, 2, some .int, 1, 21)
theorem mok_X2_movedTo : am_mok KX2_movedTo 2 := by unfold am_mok; decide +kernel
theorem mw_X2_movedTo : am_mw KX2_movedTo := ⟨am_c19 (i := 31) rfl rfl, am_c2 (i := 10) rfl rfl⟩
abbrev KX2_takeIn : MK := (yX2_takeIn, cX2_takeIn, 6, some .int, 2, 47)
theorem mok_X2_takeIn : am_mok KX2_takeIn 2 := by unfold am_mok; decide +kernel
theorem mw_X2_takeIn : am_mw KX2_takeIn := ⟨am_c19 (i := 28) rfl rfl, am_c2 (i := 10) rfl rfl⟩
abbrev KX3_hasBit : MK := (yX3_hasBit, cX3_hasBit, 2, some .boolean, 1, 20)
theorem mok_X3_hasBit : am_mok KX3_hasBit 2 := by unfold am_mok; decide +kernel
theorem mw_X3_hasBit : am_mw KX3_hasBit := ⟨am_c16 (i := 30) rfl rfl, am_c2 (i := 9) rfl rfl⟩
abbrev KX3_countBits : MK := (yX3_countBits, cX3_countBits, 4, some .int, 2, 42)
theorem mok_X3_countBits : am_mok KX3_countBits 2 := by unfold am_mok; decide +kernel
theorem mw_X3_countBits : am_mw KX3_countBits := ⟨am_c16 (i := 25) rfl rfl, am_c2 (i := 9) rfl rfl⟩
abbrev KX3_howMany : MK := (yX3_howMany, cX3_howMany, 3, some .long, 3, 65)
theorem mok_X3_howMany : am_mok KX3_howMany 2 := by unfold am_mok; decide +kernel
theorem mw_X3_howMany : am_mw KX3_howMany := ⟨am_c19 (i := 15) rfl rfl, am_c2 (i := 9) rfl rfl⟩
abbrev KX3_bitsBefore : MK := (yX3_bitsBefore, cX3_bitsBefore, 5, some .int, 2, 42)
theorem mok_X3_bitsBefore : am_mok KX3_bitsBefore 2 := by unfold am_mok; decide +kernel
theorem mw_X3_bitsBefore : am_mw KX3_bitsBefore := ⟨am_c17 (i := 9) rfl rfl, am_c2 (i := 9) rfl rfl⟩
abbrev KX3_giveBits : MK := (yX3_giveBits, cX3_giveBits, 5, none, 3, 66)
theorem mok_X3_giveBits : am_mok KX3_giveBits 1 := by unfold am_mok; decide +kernel
theorem mw_X3_giveBits : am_mw KX3_giveBits := ⟨am_c17 (i := 4) rfl rfl, am_c2 (i := 9) rfl rfl⟩
abbrev KX5_joined : MK := (yX5_joined, cX5_joined, 4, some .int, 0, 0)
theorem mok_X5_joined : am_mok KX5_joined 4 := by unfold am_mok; decide +kernel
theorem mw_X5_joined : am_mw KX5_joined := ⟨am_c15 (i := 29) rfl rfl, am_c2 (i := 5) rfl rfl⟩
abbrev KX3_bearing : MK := (yX3_bearing, cX3_bearing, 4, some .int, 1, 20)
theorem mok_X3_bearing : am_mok KX3_bearing 4 := by unfold am_mok; decide +kernel
theorem mw_X3_bearing : am_mw KX3_bearing := ⟨am_c17 (i := 25) rfl rfl, am_c2 (i := 9) rfl rfl⟩
abbrev KX3_weigh : MK := (yX3_weigh, cX3_weigh, 9, none, 2, 43)
theorem mok_X3_weigh : am_mok KX3_weigh 2 := by unfold am_mok; decide +kernel
theorem mw_X3_weigh : am_mw KX3_weigh := ⟨am_c17 (i := 17) rfl rfl, am_c2 (i := 9) rfl rfl⟩
abbrev KX3_maySee : MK := (yX3_maySee, cX3_maySee, 3, some .boolean, 1, 21)
theorem mok_X3_maySee : am_mok KX3_maySee 2 := by unfold am_mok; decide +kernel
theorem mw_X3_maySee : am_mw KX3_maySee := ⟨am_c18 (i := 5) rfl rfl, am_c2 (i := 9) rfl rfl⟩
abbrev KX3_isFit : MK := (yX3_isFit, cX3_isFit, 2, some .boolean, 2, 43)
theorem mok_X3_isFit : am_mok KX3_isFit 1 := by unfold am_mok; decide +kernel
theorem mw_X3_isFit : am_mw KX3_isFit := ⟨am_c18 (i := 1) rfl rfl, am_c2 (i := 9) rfl rfl⟩
abbrev KX3_stay : MK := (yX3_stay, cX3_stay, 2, none, 1, 22)
theorem mok_X3_stay : am_mok KX3_stay 1 := by unfold am_mok; decide +kernel
theorem mw_X3_stay : am_mw KX3_stay := ⟨am_c18 (i := 10) rfl rfl, am_c2 (i := 9) rfl rfl⟩
abbrev KX3_beginWithFit : MK := (yX3_beginWithFit, cX3_beginWithFit, 2, none, 3, 64)
theorem mok_X3_beginWithFit : am_mok KX3_beginWithFit 0 := by unfold am_mok; decide +kernel
theorem mw_X3_beginWithFit : am_mw KX3_beginWithFit := ⟨am_c17 (i := 29) rfl rfl, am_c2 (i := 9) rfl rfl⟩
abbrev KX3_mustFall : MK := (yX3_mustFall, cX3_mustFall, 6, some .boolean, 2, 43)
theorem mok_X3_mustFall : am_mok KX3_mustFall 1 := by unfold am_mok; decide +kernel
theorem mw_X3_mustFall : am_mw KX3_mustFall := ⟨am_c18 (i := 18) rfl rfl, am_c2 (i := 9) rfl rfl⟩
abbrev KX3_anyFall : MK := (yX3_anyFall, cX3_anyFall, 5, some .boolean, 3, 68)
theorem mok_X3_anyFall : am_mok KX3_anyFall 1 := by unfold am_mok; decide +kernel
theorem mw_X3_anyFall : am_mw KX3_anyFall := ⟨am_c18 (i := 14) rfl rfl, am_c2 (i := 9) rfl rfl⟩
abbrev KX3_sortOut : MK := (yX3_sortOut, cX3_sortOut, 5, some .boolean, 4, 92)
theorem mok_X3_sortOut : am_mok KX3_sortOut 2 := by unfold am_mok; decide +kernel
theorem mw_X3_sortOut : am_mw KX3_sortOut := ⟨am_c16 (i := 22) rfl rfl, am_c2 (i := 9) rfl rfl⟩
abbrev KX3_fallOf : MK := (yX3_fallOf, cX3_fallOf, 2, some .int, 1, 21)
theorem mok_X3_fallOf : am_mok KX3_fallOf 1 := by unfold am_mok; decide +kernel
theorem mw_X3_fallOf : am_mw KX3_fallOf := ⟨am_c19 (i := 19) rfl rfl, am_c2 (i := 9) rfl rfl⟩
abbrev KX3_placeWhere : MK := (yX3_placeWhere, cX3_placeWhere, 3, some .int, 1, 21)
theorem mok_X3_placeWhere : am_mok KX3_placeWhere 1 := by unfold am_mok; decide +kernel
theorem mw_X3_placeWhere : am_mw KX3_placeWhere := ⟨am_c18 (i := 26) rfl rfl, am_c2 (i := 9) rfl rfl⟩
abbrev KX3_swapStays : MK := (yX3_swapStays, cX3_swapStays, 4, none, 1, 22)
theorem mok_X3_swapStays : am_mok KX3_swapStays 2 := by unfold am_mok; decide +kernel
theorem mw_X3_swapStays : am_mw KX3_swapStays := ⟨am_c19 (i := 3) rfl rfl, am_c2 (i := 9) rfl rfl⟩
abbrev KX3_howManyReached : MK := (yX3_howManyReached, cX3_howManyReached, 5, some .int, 2, 45)
theorem mok_X3_howManyReached : am_mok KX3_howManyReached 1 := by unfold am_mok; decide +kernel
theorem mw_X3_howManyReached : am_mw KX3_howManyReached := ⟨am_c18 (i := 31) rfl rfl, am_c2 (i := 9) rfl rfl⟩
abbrev KX3_howManyFit : MK := (yX3_howManyFit, cX3_howManyFit, 3, some .int, 1, 21)
theorem mok_X3_howManyFit : am_mok KX3_howManyFit 0 := by unfold am_mok; decide +kernel
theorem mw_X3_howManyFit : am_mw KX3_howManyFit := ⟨am_c19 (i := 7) rfl rfl, am_c2 (i := 9) rfl rfl⟩
abbrev KX3_answer : MK := (yX3_answer, cX3_answer, 2, some .int, 3, 69)
theorem mok_X3_answer : am_mok KX3_answer 1 := by unfold am_mok; decide +kernel
theorem mw_X3_answer : am_mw KX3_answer := ⟨am_c18 (i := 22) rfl rfl, am_c2 (i := 9) rfl rfl⟩
abbrev KX4_look : MK := (yX4_look, cX4_look, 4, none, 4, 89)
theorem mok_X4_look : am_mok KX4_look 2 := by unfold am_mok; decide +kernel
theorem mw_X4_look : am_mw KX4_look := ⟨am_c15 (i := 4) rfl rfl, am_c2 (i := 7) rfl rfl⟩
abbrev KX4_must : MK := (yX4_must, cX4_must, 4, some .int, 1, 21)
theorem mok_X4_must : am_mok KX4_must 1 := by unfold am_mok; decide +kernel
theorem mw_X4_must : am_mw KX4_must := ⟨am_c16 (i := 1) rfl rfl, am_c2 (i := 7) rfl rfl⟩
abbrev KX4_judge : MK := (yX4_judge, cX4_judge, 10, some .int, 2, 44)
theorem mok_X4_judge : am_mok KX4_judge 3 := by unfold am_mok; decide +kernel
theorem mw_X4_judge : am_mw KX4_judge := ⟨am_c15 (i := 11) rfl rfl, am_c2 (i := 7) rfl rfl⟩
abbrev KX4_sameAtoms : MK := (yX4_sameAtoms, cX4_sameAtoms, 5, some .boolean, 1, 21)
theorem mok_X4_sameAtoms : am_mok KX4_sameAtoms 3 := by unfold am_mok; decide +kernel
theorem mw_X4_sameAtoms : am_mw KX4_sameAtoms := ⟨am_c20 (i := 16) rfl rfl, am_c2 (i := 7) rfl rfl⟩
abbrev KX4_heapByAtoms : MK := (yX4_heapByAtoms, cX4_heapByAtoms, 4, none, 2, 45)
theorem mok_X4_heapByAtoms : am_mok KX4_heapByAtoms 1 := by unfold am_mok; decide +kernel
theorem mw_X4_heapByAtoms : am_mw KX4_heapByAtoms := ⟨am_c20 (i := 13) rfl rfl, am_c2 (i := 7) rfl rfl⟩
abbrev KX4_heapsSeen : MK := (yX4_heapsSeen, cX4_heapsSeen, 4, some .int, 1, 21)
theorem mok_X4_heapsSeen : am_mok KX4_heapsSeen 1 := by unfold am_mok; decide +kernel
theorem mw_X4_heapsSeen : am_mw KX4_heapsSeen := ⟨am_c20 (i := 30) rfl rfl, am_c2 (i := 7) rfl rfl⟩
abbrev KX4_sameHeaps : MK := (yX4_sameHeaps, cX4_sameHeaps, 3, some .boolean, 2, 44)
theorem mok_X4_sameHeaps : am_mok KX4_sameHeaps 2 := by unfold am_mok; decide +kernel
theorem mw_X4_sameHeaps : am_mw KX4_sameHeaps := ⟨am_c20 (i := 26) rfl rfl, am_c2 (i := 7) rfl rfl⟩
abbrev KX4_heapFiner : MK := (yX4_heapFiner, cX4_heapFiner, 3, none, 3, 66)
theorem mok_X4_heapFiner : am_mok KX4_heapFiner 0 := by unfold am_mok; decide +kernel
theorem mw_X4_heapFiner : am_mw KX4_heapFiner := ⟨am_c20 (i := 22) rfl rfl, am_c2 (i := 7) rfl rfl⟩
abbrev KX4_depthApart : MK := (yX4_depthApart, cX4_depthApart, 5, some .int, 4, 88)
theorem mok_X4_depthApart : am_mok KX4_depthApart 3 := by unfold am_mok; decide +kernel
theorem mw_X4_depthApart : am_mw KX4_depthApart := ⟨am_c21 (i := 14) rfl rfl, am_c2 (i := 7) rfl rfl⟩
abbrev KX4_heapUp : MK := (yX4_heapUp, cX4_heapUp, 3, none, 4, 88)
theorem mok_X4_heapUp : am_mok KX4_heapUp 1 := by unfold am_mok; decide +kernel
theorem mw_X4_heapUp : am_mw KX4_heapUp := ⟨am_c20 (i := 9) rfl rfl, am_c2 (i := 7) rfl rfl⟩
abbrev KX4_howManyHeaps : MK := (yX4_howManyHeaps, cX4_howManyHeaps, 3, some .int, 1, 21)
theorem mok_X4_howManyHeaps : am_mok KX4_howManyHeaps 0 := by unfold am_mok; decide +kernel
theorem mw_X4_howManyHeaps : am_mw KX4_howManyHeaps := ⟨am_c21 (i := 2) rfl rfl, am_c2 (i := 7) rfl rfl⟩
abbrev KX5_worlds : MK := (yX5_worlds, cX5_worlds, 3, some .int, 2, 44)
theorem mok_X5_worlds : am_mok KX5_worlds 1 := by unfold am_mok; decide +kernel
theorem mw_X5_worlds : am_mw KX5_worlds := ⟨am_c8 (i := 12) rfl rfl, am_c2 (i := 5) rfl rfl⟩
abbrev KX5_isWhether : MK := (yX5_isWhether, cX5_isWhether, 1, some .boolean, 0, 0)
theorem mok_X5_isWhether : am_mok KX5_isWhether 1 := by unfold am_mok; decide +kernel
theorem mw_X5_isWhether : am_mw KX5_isWhether := ⟨am_c9 (i := 2) rfl rfl, am_c2 (i := 5) rfl rfl⟩
abbrev KX5_see : MK := (yX5_see, cX5_see, 5, some .int, 4, 89)
theorem mok_X5_see : am_mok KX5_see 3 := by unfold am_mok; decide +kernel
theorem mw_X5_see : am_mw KX5_see := ⟨am_c8 (i := 27) rfl rfl, am_c2 (i := 5) rfl rfl⟩
abbrev KX5_atom : MK := (yX5_atom, cX5_atom, 4, some .int, 1, 22)
theorem mok_X5_atom : am_mok KX5_atom 2 := by unfold am_mok; decide +kernel
theorem mw_X5_atom : am_mw KX5_atom := ⟨am_c10 (i := 5) rfl rfl, am_c2 (i := 5) rfl rfl⟩
abbrev KX5_isSort : MK := (yX5_isSort, cX5_isSort, 1, some .boolean, 0, 0)
theorem mok_X5_isSort : am_mok KX5_isSort 1 := by unfold am_mok; decide +kernel
theorem mw_X5_isSort : am_mw KX5_isSort := ⟨am_c10 (i := 22) rfl rfl, am_c2 (i := 5) rfl rfl⟩
abbrev KX5_seen : MK := (yX5_seen, cX5_seen, 3, some .int, 4, 89)
theorem mok_X5_seen : am_mok KX5_seen 2 := by unfold am_mok; decide +kernel
theorem mw_X5_seen : am_mw KX5_seen := ⟨am_c10 (i := 19) rfl rfl, am_c2 (i := 5) rfl rfl⟩
abbrev KX5_sorts : MK := (yX5_sorts, cX5_sorts, 1, some .int, 3, 67)
theorem mok_X5_sorts : am_mok KX5_sorts 0 := by unfold am_mok; decide +kernel
theorem mw_X5_sorts : am_mw KX5_sorts := ⟨am_c10 (i := 28) rfl rfl, am_c2 (i := 5) rfl rfl⟩
abbrev KX5_type : MK := (yX5_type, cX5_type, 5, some .int, 1, 22)
theorem mok_X5_type : am_mok KX5_type 2 := by unfold am_mok; decide +kernel
theorem mw_X5_type : am_mw KX5_type := ⟨am_c11 (i := 17) rfl rfl, am_c2 (i := 5) rfl rfl⟩
abbrev KX5_clear : MK := (yX5_clear, cX5_clear, 2, some .int, 0, 0)
theorem mok_X5_clear : am_mok KX5_clear 0 := by unfold am_mok; decide +kernel
theorem mw_X5_clear : am_mw KX5_clear := ⟨am_c11 (i := 21) rfl rfl, am_c2 (i := 5) rfl rfl⟩
abbrev KX5_sentence : MK := (yX5_sentence, cX5_sentence, 2, some (.object "SeenWorlds$Sentence"), 0, 0)
theorem mok_X5_sentence : am_mok KX5_sentence 1 := by unfold am_mok; decide +kernel
theorem mw_X5_sentence : am_mw KX5_sentence := ⟨am_c11 (i := 29) rfl rfl, am_c2 (i := 5) rfl rfl⟩
abbrev KX5_read : MK := (yX5_read, cX5_read, 4, some .int, 6, 140)
theorem mok_X5_read : am_mok KX5_read 1 := by unfold am_mok; decide +kernel
theorem mw_X5_read : am_mw KX5_read := ⟨am_c11 (i := 25) rfl rfl, am_c2 (i := 5) rfl rfl⟩
abbrev KX5_about : MK := (yX5_about, cX5_about, 4, some .int, 3, 61)
theorem mok_X5_about : am_mok KX5_about 2 := by unfold am_mok; decide +kernel
theorem mw_X5_about : am_mw KX5_about := ⟨am_c14 (i := 5) rfl rfl, am_c2 (i := 5) rfl rfl⟩
abbrev KX5_whereHolds : MK := (yX5_whereHolds, cX5_whereHolds, 3, some .int, 5, 112)
theorem mok_X5_whereHolds : am_mok KX5_whereHolds 2 := by unfold am_mok; decide +kernel
theorem mw_X5_whereHolds : am_mw KX5_whereHolds := ⟨am_c15 (i := 0) rfl rfl, am_c2 (i := 5) rfl rfl⟩
abbrev KX5_holds : MK := (yX5_holds, cX5_holds, 4, some .int, 6, 134)
theorem mok_X5_holds : am_mok KX5_holds 2 := by unfold am_mok; decide +kernel
theorem mw_X5_holds : am_mw KX5_holds := ⟨am_c14 (i := 28) rfl rfl, am_c2 (i := 5) rfl rfl⟩
abbrev KX5_deal : MK := (yX5_deal, cX5_deal, 5, none, 1, 22)
theorem mok_X5_deal : am_mok KX5_deal 2 := by unfold am_mok; decide +kernel
theorem mw_X5_deal : am_mw KX5_deal := ⟨am_c16 (i := 11) rfl rfl, am_c2 (i := 5) rfl rfl⟩
abbrev KX5_sure : MK := (yX5_sure, cX5_sure, 6, some .int, 5, 112)
theorem mok_X5_sure : am_mok KX5_sure 2 := by unfold am_mok; decide +kernel
theorem mw_X5_sure : am_mw KX5_sure := ⟨am_c16 (i := 6) rfl rfl, am_c2 (i := 5) rfl rfl⟩
abbrev KX5_isLogic : MK := (yX5_isLogic, cX5_isLogic, 1, some .boolean, 0, 0)
theorem mok_X5_isLogic : am_mok KX5_isLogic 1 := by unfold am_mok; decide +kernel
theorem mw_X5_isLogic : am_mw KX5_isLogic := ⟨am_c16 (i := 18) rfl rfl, am_c2 (i := 5) rfl rfl⟩
abbrev KX5_logic : MK := (yX5_logic, cX5_logic, 5, some .int, 5, 116)
theorem mok_X5_logic : am_mok KX5_logic 3 := by unfold am_mok; decide +kernel
theorem mw_X5_logic : am_mw KX5_logic := ⟨am_c16 (i := 15) rfl rfl, am_c2 (i := 5) rfl rfl⟩
abbrev KX5_falls : MK := (yX5_falls, cX5_falls, 5, some .int, 5, 116)
theorem mok_X5_falls : am_mok KX5_falls 3 := by unfold am_mok; decide +kernel
theorem mw_X5_falls : am_mw KX5_falls := ⟨am_c19 (i := 11) rfl rfl, am_c2 (i := 5) rfl rfl⟩
abbrev KX5_follows : MK := (yX5_follows, cX5_follows, 8, some .int, 5, 116)
theorem mok_X5_follows : am_mok KX5_follows 3 := by unfold am_mok; decide +kernel
theorem mw_X5_follows : am_mw KX5_follows := ⟨am_c19 (i := 23) rfl rfl, am_c2 (i := 5) rfl rfl⟩
abbrev KX5_heaps : MK := (yX5_heaps, cX5_heaps, 2, some .int, 5, 112)
theorem mok_X5_heaps : am_mok KX5_heaps 1 := by unfold am_mok; decide +kernel
theorem mw_X5_heaps : am_mw KX5_heaps := ⟨am_c20 (i := 5) rfl rfl, am_c2 (i := 5) rfl rfl⟩
abbrev KX5_depthApart : MK := (yX5_depthApart, cX5_depthApart, 4, some .int, 5, 112)
theorem mok_X5_depthApart : am_mok KX5_depthApart 3 := by unfold am_mok; decide +kernel
theorem mw_X5_depthApart : am_mw KX5_depthApart := ⟨am_c21 (i := 10) rfl rfl, am_c2 (i := 5) rfl rfl⟩
abbrev KX5_alike : MK := (yX5_alike, cX5_alike, 4, some .int, 6, 135)
theorem mok_X5_alike : am_mok KX5_alike 3 := by unfold am_mok; decide +kernel
theorem mw_X5_alike : am_mw KX5_alike := ⟨am_c21 (i := 6) rfl rfl, am_c2 (i := 5) rfl rfl⟩
abbrev KX5_apart : MK := (yX5_apart, cX5_apart, 4, some .int, 6, 135)
theorem mok_X5_apart : am_mok KX5_apart 3 := by unfold am_mok; decide +kernel
theorem mw_X5_apart : am_mw KX5_apart := ⟨am_c21 (i := 18) rfl rfl, am_c2 (i := 5) rfl rfl⟩
abbrev KX5_growing : MK := (yX5_growing, cX5_growing, 1, some .int, 3, 65)
theorem mok_X5_growing : am_mok KX5_growing 0 := by unfold am_mok; decide +kernel
theorem mw_X5_growing : am_mw KX5_growing := ⟨am_c21 (i := 22) rfl rfl, am_c2 (i := 5) rfl rfl⟩
abbrev KX5_grows : MK := (yX5_grows, cX5_grows, 3, some .int, 5, 112)
theorem mok_X5_grows : am_mok KX5_grows 1 := by unfold am_mok; decide +kernel
theorem mw_X5_grows : am_mw KX5_grows := ⟨am_c21 (i := 30) rfl rfl, am_c2 (i := 5) rfl rfl⟩
abbrev KX5_shown : MK := (yX5_shown, cX5_shown, 4, some .int, 5, 116)
theorem mok_X5_shown : am_mok KX5_shown 2 := by unfold am_mok; decide +kernel
theorem mw_X5_shown : am_mw KX5_shown := ⟨am_c22 (i := 2) rfl rfl, am_c2 (i := 5) rfl rfl⟩
abbrev KX5_tell : MK := (yX5_tell, cX5_tell, 4, some .int, 6, 134)
theorem mok_X5_tell : am_mok KX5_tell 1 := by unfold am_mok; decide +kernel
theorem mw_X5_tell : am_mw KX5_tell := ⟨am_c22 (i := 6) rfl rfl, am_c2 (i := 5) rfl rfl⟩
abbrev KX5_known : MK := (yX5_known, cX5_known, 3, some .int, 6, 134)
theorem mok_X5_known : am_mok KX5_known 1 := by unfold am_mok; decide +kernel
theorem mw_X5_known : am_mw KX5_known := ⟨am_c22 (i := 18) rfl rfl, am_c2 (i := 5) rfl rfl⟩
abbrev KX5_steps : MK := (yX5_steps, cX5_steps, 4, some .int, 6, 134)
theorem mok_X5_steps : am_mok KX5_steps 2 := by unfold am_mok; decide +kernel
theorem mw_X5_steps : am_mw KX5_steps := ⟨am_c22 (i := 26) rfl rfl, am_c2 (i := 5) rfl rfl⟩
abbrev KX5_count : MK := (yX5_count, cX5_count, 2, some .int, 2, 43)
theorem mok_X5_count : am_mok KX5_count 1 := by unfold am_mok; decide +kernel
theorem mw_X5_count : am_mw KX5_count := ⟨am_c23 (i := 2) rfl rfl, am_c2 (i := 5) rfl rfl⟩
abbrev KX5_trace : MK := (yX5_trace, cX5_trace, 1, some .long, 0, 0)
theorem mok_X5_trace : am_mok KX5_trace 0 := by unfold am_mok; decide +kernel
theorem mw_X5_trace : am_mw KX5_trace := ⟨am_c23 (i := 10) rfl rfl, am_c2 (i := 5) rfl rfl⟩
abbrev KX6_in : MK := (yX6_in, cX6_in, 3, some .boolean, 0, 0)
theorem mok_X6_in : am_mok KX6_in 3 := by unfold am_mok; decide +kernel
theorem mw_X6_in : am_mw KX6_in := ⟨am_c28 (i := 15) rfl rfl, am_c2 (i := 12) rfl rfl⟩
abbrev KX6_isWorld : MK := (yX6_isWorld, cX6_isWorld, 2, some .boolean, 1, 22)
theorem mok_X6_isWorld : am_mok KX6_isWorld 1 := by unfold am_mok; decide +kernel
theorem mw_X6_isWorld : am_mw KX6_isWorld := ⟨am_c28 (i := 23) rfl rfl, am_c2 (i := 12) rfl rfl⟩
abbrev KX6_isSentence : MK := (yX6_isSentence, cX6_isSentence, 1, some .boolean, 1, 22)
theorem mok_X6_isSentence : am_mok KX6_isSentence 1 := by unfold am_mok; decide +kernel
theorem mw_X6_isSentence : am_mw KX6_isSentence := ⟨am_c30 (i := 8) rfl rfl, am_c2 (i := 12) rfl rfl⟩
abbrev KX6_isSort : MK := (yX6_isSort, cX6_isSort, 1, some .boolean, 1, 22)
theorem mok_X6_isSort : am_mok KX6_isSort 1 := by unfold am_mok; decide +kernel
theorem mw_X6_isSort : am_mw KX6_isSort := ⟨am_c29 (i := 6) rfl rfl, am_c2 (i := 12) rfl rfl⟩
abbrev KX6_all : MK := (yX6_all, cX6_all, 1, some .int, 0, 0)
theorem mok_X6_all : am_mok KX6_all 0 := by unfold am_mok; decide +kernel
theorem mw_X6_all : am_mw KX6_all := ⟨am_c28 (i := 31) rfl rfl, am_c2 (i := 12) rfl rfl⟩
abbrev KX6_worlds : MK := (yX6_worlds, cX6_worlds, 4, some .int, 1, 22)
theorem mok_X6_worlds : am_mok KX6_worlds 1 := by unfold am_mok; decide +kernel
theorem mw_X6_worlds : am_mw KX6_worlds := ⟨am_c28 (i := 12) rfl rfl, am_c2 (i := 12) rfl rfl⟩
abbrev KX6_see : MK := (yX6_see, cX6_see, 5, some .int, 2, 43)
theorem mok_X6_see : am_mok KX6_see 3 := by unfold am_mok; decide +kernel
theorem mw_X6_see : am_mw KX6_see := ⟨am_c28 (i := 19) rfl rfl, am_c2 (i := 12) rfl rfl⟩
abbrev KX6_atom : MK := (yX6_atom, cX6_atom, 4, some .int, 1, 22)
theorem mok_X6_atom : am_mok KX6_atom 2 := by unfold am_mok; decide +kernel
theorem mw_X6_atom : am_mw KX6_atom := ⟨am_c28 (i := 27) rfl rfl, am_c2 (i := 12) rfl rfl⟩
abbrev KX6_farOf : MK := (yX6_farOf, cX6_farOf, 5, some .int, 0, 0)
theorem mok_X6_farOf : am_mok KX6_farOf 1 := by unfold am_mok; decide +kernel
theorem mw_X6_farOf : am_mw KX6_farOf := ⟨am_c29 (i := 17) rfl rfl, am_c2 (i := 12) rfl rfl⟩
abbrev KX6_seenOf : MK := (yX6_seenOf, cX6_seenOf, 6, some .int, 1, 24)
theorem mok_X6_seenOf : am_mok KX6_seenOf 2 := by unfold am_mok; decide +kernel
theorem mw_X6_seenOf : am_mw KX6_seenOf := ⟨am_c29 (i := 13) rfl rfl, am_c2 (i := 12) rfl rfl⟩
abbrev KX6_seen : MK := (yX6_seen, cX6_seen, 3, some .int, 2, 49)
theorem mok_X6_seen : am_mok KX6_seen 2 := by unfold am_mok; decide +kernel
theorem mw_X6_seen : am_mw KX6_seen := ⟨am_c29 (i := 3) rfl rfl, am_c2 (i := 12) rfl rfl⟩
abbrev KX6_ones : MK := (yX6_ones, cX6_ones, 3, some .int, 0, 0)
theorem mok_X6_ones : am_mok KX6_ones 1 := by unfold am_mok; decide +kernel
theorem mw_X6_ones : am_mw KX6_ones := ⟨am_c29 (i := 24) rfl rfl, am_c2 (i := 12) rfl rfl⟩
abbrev KX6_sorts : MK := (yX6_sorts, cX6_sorts, 4, some .int, 1, 22)
theorem mok_X6_sorts : am_mok KX6_sorts 0 := by unfold am_mok; decide +kernel
theorem mw_X6_sorts : am_mw KX6_sorts := ⟨am_c29 (i := 21) rfl rfl, am_c2 (i := 12) rfl rfl⟩
abbrev KX6_type : MK := (yX6_type, cX6_type, 5, some .int, 1, 22)
theorem mok_X6_type : am_mok KX6_type 2 := by unfold am_mok; decide +kernel
theorem mw_X6_type : am_mw KX6_type := ⟨am_c29 (i := 28) rfl rfl, am_c2 (i := 12) rfl rfl⟩
abbrev KX6_clear : MK := (yX6_clear, cX6_clear, 2, some .int, 0, 0)
theorem mok_X6_clear : am_mok KX6_clear 0 := by unfold am_mok; decide +kernel
theorem mw_X6_clear : am_mw KX6_clear := ⟨am_c30 (i := 1) rfl rfl, am_c2 (i := 12) rfl rfl⟩
abbrev KX6_isAtom : MK := (yX6_isAtom, cX6_isAtom, 1, some .boolean, 1, 22)
theorem mok_X6_isAtom : am_mok KX6_isAtom 1 := by unfold am_mok; decide +kernel
theorem mw_X6_isAtom : am_mw KX6_isAtom := ⟨am_c30 (i := 18) rfl rfl, am_c2 (i := 12) rfl rfl⟩
abbrev KX6_isPrefix : MK := (yX6_isPrefix, cX6_isPrefix, 1, some .boolean, 0, 0)
theorem mok_X6_isPrefix : am_mok KX6_isPrefix 1 := by unfold am_mok; decide +kernel
theorem mw_X6_isPrefix : am_mw KX6_isPrefix := ⟨am_c30 (i := 15) rfl rfl, am_c2 (i := 12) rfl rfl⟩
abbrev KX6_isJoin : MK := (yX6_isJoin, cX6_isJoin, 1, some .boolean, 0, 0)
theorem mok_X6_isJoin : am_mok KX6_isJoin 1 := by unfold am_mok; decide +kernel
theorem mw_X6_isJoin : am_mw KX6_isJoin := ⟨am_c30 (i := 25) rfl rfl, am_c2 (i := 12) rfl rfl⟩
abbrev KX6_part : MK := (yX6_part, cX6_part, 6, some .int, 0, 0)
theorem mok_X6_part : am_mok KX6_part 5 := by unfold am_mok; decide +kernel
theorem mw_X6_part : am_mw KX6_part := ⟨am_c30 (i := 22) rfl rfl, am_c2 (i := 12) rfl rfl⟩
abbrev KX6_reads : MK := (yX6_reads, cX6_reads, 10, some .boolean, 2, 42)
theorem mok_X6_reads : am_mok KX6_reads 0 := by unfold am_mok; decide +kernel
theorem mw_X6_reads : am_mw KX6_reads := ⟨am_c30 (i := 12) rfl rfl, am_c2 (i := 12) rfl rfl⟩
abbrev KX6_read : MK := (yX6_read, cX6_read, 4, some .int, 3, 71)
theorem mok_X6_read : am_mok KX6_read 1 := by unfold am_mok; decide +kernel
theorem mw_X6_read : am_mw KX6_read := ⟨am_c30 (i := 5) rfl rfl, am_c2 (i := 12) rfl rfl⟩
abbrev KX6_takes : MK := (yX6_takes, cX6_takes, 5, none, 0, 0)
theorem mok_X6_takes : am_mok KX6_takes 1 := by unfold am_mok; decide +kernel
theorem mw_X6_takes : am_mw KX6_takes := ⟨am_c31 (i := 5) rfl rfl, am_c2 (i := 12) rfl rfl⟩
abbrev KX6_works : MK := (yX6_works, cX6_works, 2, none, 1, 24)
theorem mok_X6_works : am_mok KX6_works 1 := by unfold am_mok; decide +kernel
theorem mw_X6_works : am_mw KX6_works := ⟨am_c31 (i := 1) rfl rfl, am_c2 (i := 12) rfl rfl⟩
abbrev KX6_isLike : MK := (yX6_isLike, cX6_isLike, 6, some .boolean, 0, 0)
theorem mok_X6_isLike : am_mok KX6_isLike 2 := by unfold am_mok; decide +kernel
theorem mw_X6_isLike : am_mw KX6_isLike := ⟨am_c31 (i := 25) rfl rfl, am_c2 (i := 12) rfl rfl⟩
abbrev KX6_isModal : MK := (yX6_isModal, cX6_isModal, 2, some .boolean, 0, 0)
theorem mok_X6_isModal : am_mok KX6_isModal 1 := by unfold am_mok; decide +kernel
theorem mw_X6_isModal : am_mw KX6_isModal := ⟨am_c31 (i := 17) rfl rfl, am_c2 (i := 12) rfl rfl⟩
abbrev KX6_atomsOf : MK := (yX6_atomsOf, cX6_atomsOf, 3, some .int, 2, 42)
theorem mok_X6_atomsOf : am_mok KX6_atomsOf 0 := by unfold am_mok; decide +kernel
theorem mw_X6_atomsOf : am_mw KX6_atomsOf := ⟨am_c31 (i := 9) rfl rfl, am_c2 (i := 12) rfl rfl⟩
abbrev KX6_isPlain : MK := (yX6_isPlain, cX6_isPlain, 3, some .boolean, 1, 21)
theorem mok_X6_isPlain : am_mok KX6_isPlain 0 := by unfold am_mok; decide +kernel
theorem mw_X6_isPlain : am_mw KX6_isPlain := ⟨am_c31 (i := 13) rfl rfl, am_c2 (i := 12) rfl rfl⟩
abbrev KX6_isTwo : MK := (yX6_isTwo, cX6_isTwo, 2, some .boolean, 1, 20)
theorem mok_X6_isTwo : am_mok KX6_isTwo 1 := by unfold am_mok; decide +kernel
theorem mw_X6_isTwo : am_mw KX6_isTwo := ⟨am_c31 (i := 21) rfl rfl, am_c2 (i := 12) rfl rfl⟩
abbrev KX6_about : MK := (yX6_about, cX6_about, 7, some .int, 3, 64)
theorem mok_X6_about : am_mok KX6_about 2 := by unfold am_mok; decide +kernel
theorem mw_X6_about : am_mw KX6_about := ⟨am_c30 (i := 29) rfl rfl, am_c2 (i := 12) rfl rfl⟩
abbrev KX6_looks : MK := (yX6_looks, cX6_looks, 3, none, 2, 49)
theorem mok_X6_looks : am_mok KX6_looks 1 := by unfold am_mok; decide +kernel
theorem mw_X6_looks : am_mw KX6_looks := ⟨am_c32 (i := 1) rfl rfl, am_c2 (i := 12) rfl rfl⟩
abbrev KX6_allIn : MK := (yX6_allIn, cX6_allIn, 4, some .int, 0, 0)
theorem mok_X6_allIn : am_mok KX6_allIn 1 := by unfold am_mok; decide +kernel
theorem mw_X6_allIn : am_mw KX6_allIn := ⟨am_c32 (i := 9) rfl rfl, am_c2 (i := 12) rfl rfl⟩
abbrev KX6_holding : MK := (yX6_holding, cX6_holding, 6, some .int, 2, 42)
theorem mok_X6_holding : am_mok KX6_holding 0 := by unfold am_mok; decide +kernel
theorem mw_X6_holding : am_mw KX6_holding := ⟨am_c32 (i := 5) rfl rfl, am_c2 (i := 12) rfl rfl⟩
abbrev KX6_holds : MK := (yX6_holds, cX6_holds, 3, some .int, 3, 71)
theorem mok_X6_holds : am_mok KX6_holds 2 := by unfold am_mok; decide +kernel
theorem mw_X6_holds : am_mw KX6_holds := ⟨am_c31 (i := 29) rfl rfl, am_c2 (i := 12) rfl rfl⟩
abbrev KX6_sure : MK := (yX6_sure, cX6_sure, 13, some .int, 3, 71)
theorem mok_X6_sure : am_mok KX6_sure 2 := by unfold am_mok; decide +kernel
theorem mw_X6_sure : am_mw KX6_sure := ⟨am_c32 (i := 13) rfl rfl, am_c2 (i := 12) rfl rfl⟩
abbrev KX6_tells : MK := (yX6_tells, cX6_tells, 7, some .boolean, 2, 42)
theorem mok_X6_tells : am_mok KX6_tells 1 := by unfold am_mok; decide +kernel
theorem mw_X6_tells : am_mw KX6_tells := ⟨am_c32 (i := 24) rfl rfl, am_c2 (i := 12) rfl rfl⟩
abbrev KX6_judges : MK := (yX6_judges, cX6_judges, 7, none, 1, 20)
theorem mok_X6_judges : am_mok KX6_judges 1 := by unfold am_mok; decide +kernel
theorem mw_X6_judges : am_mw KX6_judges := ⟨am_c33 (i := 0) rfl rfl, am_c2 (i := 12) rfl rfl⟩
abbrev KX6_types : MK := (yX6_types, cX6_types, 4, none, 2, 46)
theorem mok_X6_types : am_mok KX6_types 0 := by unfold am_mok; decide +kernel
theorem mw_X6_types : am_mw KX6_types := ⟨am_c32 (i := 28) rfl rfl, am_c2 (i := 12) rfl rfl⟩
abbrev KX6_lets : MK := (yX6_lets, cX6_lets, 7, some .boolean, 0, 0)
theorem mok_X6_lets : am_mok KX6_lets 3 := by unfold am_mok; decide +kernel
theorem mw_X6_lets : am_mw KX6_lets := ⟨am_c33 (i := 12) rfl rfl, am_c2 (i := 12) rfl rfl⟩
abbrev KX6_maySee : MK := (yX6_maySee, cX6_maySee, 5, some .boolean, 1, 26)
theorem mok_X6_maySee : am_mok KX6_maySee 3 := by unfold am_mok; decide +kernel
theorem mw_X6_maySee : am_mw KX6_maySee := ⟨am_c33 (i := 8) rfl rfl, am_c2 (i := 12) rfl rfl⟩
abbrev KX6_isThere : MK := (yX6_isThere, cX6_isThere, 2, some .boolean, 0, 0)
theorem mok_X6_isThere : am_mok KX6_isThere 1 := by unfold am_mok; decide +kernel
theorem mw_X6_isThere : am_mw KX6_isThere := ⟨am_c33 (i := 16) rfl rfl, am_c2 (i := 12) rfl rfl⟩
abbrev KX6_isFalling : MK := (yX6_isFalling, cX6_isFalling, 6, some .boolean, 2, 50)
theorem mok_X6_isFalling : am_mok KX6_isFalling 2 := by unfold am_mok; decide +kernel
theorem mw_X6_isFalling : am_mw KX6_isFalling := ⟨am_c33 (i := 20) rfl rfl, am_c2 (i := 12) rfl rfl⟩
abbrev KX6_rounds : MK := (yX6_rounds, cX6_rounds, 6, some .int, 3, 75)
theorem mok_X6_rounds : am_mok KX6_rounds 1 := by unfold am_mok; decide +kernel
theorem mw_X6_rounds : am_mw KX6_rounds := ⟨am_c33 (i := 4) rfl rfl, am_c2 (i := 12) rfl rfl⟩
abbrev KX6_isLaw : MK := (yX6_isLaw, cX6_isLaw, 3, some .boolean, 1, 21)
theorem mok_X6_isLaw : am_mok KX6_isLaw 0 := by unfold am_mok; decide +kernel
theorem mw_X6_isLaw : am_mw KX6_isLaw := ⟨am_c33 (i := 24) rfl rfl, am_c2 (i := 12) rfl rfl⟩
abbrev KX6_shownFrom : MK := (yX6_shownFrom, cX6_shownFrom, 6, some .int, 2, 50)
theorem mok_X6_shownFrom : am_mok KX6_shownFrom 2 := by unfold am_mok; decide +kernel
theorem mw_X6_shownFrom : am_mw KX6_shownFrom := ⟨am_c33 (i := 28) rfl rfl, am_c2 (i := 12) rfl rfl⟩
abbrev KX6_isLogic : MK := (yX6_isLogic, cX6_isLogic, 1, some .boolean, 1, 22)
theorem mok_X6_isLogic : am_mok KX6_isLogic 1 := by unfold am_mok; decide +kernel
theorem mw_X6_isLogic : am_mw KX6_isLogic := ⟨am_c32 (i := 20) rfl rfl, am_c2 (i := 12) rfl rfl⟩
abbrev KX6_logic : MK := (yX6_logic, cX6_logic, 9, some .int, 4, 100)
theorem mok_X6_logic : am_mok KX6_logic 3 := by unfold am_mok; decide +kernel
theorem mw_X6_logic : am_mw KX6_logic := ⟨am_c32 (i := 17) rfl rfl, am_c2 (i := 12) rfl rfl⟩
abbrev KX6_falls : MK := (yX6_falls, cX6_falls, 4, some .int, 4, 100)
theorem mok_X6_falls : am_mok KX6_falls 3 := by unfold am_mok; decide +kernel
theorem mw_X6_falls : am_mw KX6_falls := ⟨am_c34 (i := 0) rfl rfl, am_c2 (i := 12) rfl rfl⟩
abbrev KX6_follows : MK := (yX6_follows, cX6_follows, 5, some .int, 4, 100)
theorem mok_X6_follows : am_mok KX6_follows 3 := by unfold am_mok; decide +kernel
theorem mw_X6_follows : am_mw KX6_follows := ⟨am_c34 (i := 4) rfl rfl, am_c2 (i := 12) rfl rfl⟩
abbrev KX6_heapsOf : MK := (yX6_heapsOf, cX6_heapsOf, 4, some .int, 0, 0)
theorem mok_X6_heapsOf : am_mok KX6_heapsOf 1 := by unfold am_mok; decide +kernel
theorem mw_X6_heapsOf : am_mw KX6_heapsOf := ⟨am_c34 (i := 20) rfl rfl, am_c2 (i := 12) rfl rfl⟩
abbrev KX6_isAlike : MK := (yX6_isAlike, cX6_isAlike, 3, some .boolean, 1, 23)
theorem mok_X6_isAlike : am_mok KX6_isAlike 2 := by unfold am_mok; decide +kernel
theorem mw_X6_isAlike : am_mw KX6_isAlike := ⟨am_c34 (i := 16) rfl rfl, am_c2 (i := 12) rfl rfl⟩
abbrev KX6_splits : MK := (yX6_splits, cX6_splits, 6, some .int, 3, 71)
theorem mok_X6_splits : am_mok KX6_splits 1 := by unfold am_mok; decide +kernel
theorem mw_X6_splits : am_mw KX6_splits := ⟨am_c34 (i := 12) rfl rfl, am_c2 (i := 12) rfl rfl⟩
abbrev KX6_heaps : MK := (yX6_heaps, cX6_heaps, 2, some .int, 4, 96)
theorem mok_X6_heaps : am_mok KX6_heaps 1 := by unfold am_mok; decide +kernel
theorem mw_X6_heaps : am_mw KX6_heaps := ⟨am_c34 (i := 8) rfl rfl, am_c2 (i := 12) rfl rfl⟩
abbrev KX6_alike : MK := (yX6_alike, cX6_alike, 4, some .int, 4, 96)
theorem mok_X6_alike : am_mok KX6_alike 3 := by unfold am_mok; decide +kernel
theorem mw_X6_alike : am_mw KX6_alike := ⟨am_c34 (i := 24) rfl rfl, am_c2 (i := 12) rfl rfl⟩
abbrev KX6_apart : MK := (yX6_apart, cX6_apart, 4, some .int, 4, 96)
theorem mok_X6_apart : am_mok KX6_apart 3 := by unfold am_mok; decide +kernel
theorem mw_X6_apart : am_mw KX6_apart := ⟨am_c34 (i := 28) rfl rfl, am_c2 (i := 12) rfl rfl⟩
abbrev KX6_isGrowing : MK := (yX6_isGrowing, cX6_isGrowing, 4, some .boolean, 1, 24)
theorem mok_X6_isGrowing : am_mok KX6_isGrowing 0 := by unfold am_mok; decide +kernel
theorem mw_X6_isGrowing : am_mw KX6_isGrowing := ⟨am_c35 (i := 4) rfl rfl, am_c2 (i := 12) rfl rfl⟩
abbrev KX6_growing : MK := (yX6_growing, cX6_growing, 1, some .int, 2, 47)
theorem mok_X6_growing : am_mok KX6_growing 0 := by unfold am_mok; decide +kernel
theorem mw_X6_growing : am_mw KX6_growing := ⟨am_c35 (i := 0) rfl rfl, am_c2 (i := 12) rfl rfl⟩
abbrev KX6_grows : MK := (yX6_grows, cX6_grows, 7, some .int, 3, 71)
theorem mok_X6_grows : am_mok KX6_grows 1 := by unfold am_mok; decide +kernel
theorem mw_X6_grows : am_mw KX6_grows := ⟨am_c35 (i := 8) rfl rfl, am_c2 (i := 12) rfl rfl⟩
abbrev KX6_isFit : MK := (yX6_isFit, cX6_isFit, 6, some .boolean, 2, 46)
theorem mok_X6_isFit : am_mok KX6_isFit 1 := by unfold am_mok; decide +kernel
theorem mw_X6_isFit : am_mw KX6_isFit := ⟨am_c35 (i := 20) rfl rfl, am_c2 (i := 12) rfl rfl⟩
abbrev KX6_breaks : MK := (yX6_breaks, cX6_breaks, 6, some .int, 2, 46)
theorem mok_X6_breaks : am_mok KX6_breaks 1 := by unfold am_mok; decide +kernel
theorem mw_X6_breaks : am_mw KX6_breaks := ⟨am_c35 (i := 24) rfl rfl, am_c2 (i := 12) rfl rfl⟩
abbrev KX6_isShown : MK := (yX6_isShown, cX6_isShown, 6, some .boolean, 3, 71)
theorem mok_X6_isShown : am_mok KX6_isShown 0 := by unfold am_mok; decide +kernel
theorem mw_X6_isShown : am_mw KX6_isShown := ⟨am_c35 (i := 16) rfl rfl, am_c2 (i := 12) rfl rfl⟩
abbrev KX6_isTrue : MK := (yX6_isTrue, cX6_isTrue, 8, some .boolean, 2, 42)
theorem mok_X6_isTrue : am_mok KX6_isTrue 0 := by unfold am_mok; decide +kernel
theorem mw_X6_isTrue : am_mw KX6_isTrue := ⟨am_c35 (i := 28) rfl rfl, am_c2 (i := 12) rfl rfl⟩
abbrev KX6_shown : MK := (yX6_shown, cX6_shown, 3, some .int, 4, 96)
theorem mok_X6_shown : am_mok KX6_shown 2 := by unfold am_mok; decide +kernel
theorem mw_X6_shown : am_mw KX6_shown := ⟨am_c35 (i := 12) rfl rfl, am_c2 (i := 12) rfl rfl⟩
abbrev KX6_held : MK := (yX6_held, cX6_held, 2, some .int, 3, 71)
theorem mok_X6_held : am_mok KX6_held 1 := by unfold am_mok; decide +kernel
theorem mw_X6_held : am_mw KX6_held := ⟨am_c36 (i := 4) rfl rfl, am_c2 (i := 12) rfl rfl⟩
abbrev KX6_packed : MK := (yX6_packed, cX6_packed, 5, some .int, 0, 0)
theorem mok_X6_packed : am_mok KX6_packed 2 := by unfold am_mok; decide +kernel
theorem mw_X6_packed : am_mw KX6_packed := ⟨am_c36 (i := 7) rfl rfl, am_c2 (i := 12) rfl rfl⟩
abbrev KX6_tell : MK := (yX6_tell, cX6_tell, 5, some .int, 4, 92)
theorem mok_X6_tell : am_mok KX6_tell 1 := by unfold am_mok; decide +kernel
theorem mw_X6_tell : am_mw KX6_tell := ⟨am_c36 (i := 0) rfl rfl, am_c2 (i := 12) rfl rfl⟩
abbrev KX6_known : MK := (yX6_known, cX6_known, 7, some .int, 4, 92)
theorem mok_X6_known : am_mok KX6_known 1 := by unfold am_mok; decide +kernel
theorem mw_X6_known : am_mw KX6_known := ⟨am_c36 (i := 11) rfl rfl, am_c2 (i := 12) rfl rfl⟩
abbrev KX6_steps : MK := (yX6_steps, cX6_steps, 8, some .int, 4, 92)
theorem mok_X6_steps : am_mok KX6_steps 2 := by unfold am_mok; decide +kernel
theorem mw_X6_steps : am_mw KX6_steps := ⟨am_c36 (i := 15) rfl rfl, am_c2 (i := 12) rfl rfl⟩
abbrev KX6_count : MK := (yX6_count, cX6_count, 4, some .int, 1, 22)
theorem mok_X6_count : am_mok KX6_count 1 := by unfold am_mok; decide +kernel
theorem mw_X6_count : am_mw KX6_count := ⟨am_c36 (i := 19) rfl rfl, am_c2 (i := 12) rfl rfl⟩
abbrev KX6_trace : MK := (yX6_trace, cX6_trace, 1, some .long, 0, 0)
theorem mok_X6_trace : am_mok KX6_trace 0 := by unfold am_mok; decide +kernel
theorem mw_X6_trace : am_mw KX6_trace := ⟨am_c36 (i := 23) rfl rfl, am_c2 (i := 12) rfl rfl⟩
theorem ic_m33 : Int32.ofInt (-33) = (-33) := by decide
theorem ic_m17 : Int32.ofInt (-17) = (-17) := by decide
theorem ic_m10 : Int32.ofInt (-10) = (-10) := by decide
theorem ic_m9 : Int32.ofInt (-9) = (-9) := by decide
theorem ic_m5 : Int32.ofInt (-5) = (-5) := by decide
theorem ic_m3 : Int32.ofInt (-3) = (-3) := by decide
theorem ic_m2 : Int32.ofInt (-2) = (-2) := by decide
theorem ic_m1 : Int32.ofInt (-1) = (-1) := by decide
theorem ic_0 : Int32.ofInt 0 = 0 := by decide
theorem ic_1 : Int32.ofInt 1 = 1 := by decide
theorem ic_2 : Int32.ofInt 2 = 2 := by decide
theorem ic_3 : Int32.ofInt 3 = 3 := by decide
theorem ic_4 : Int32.ofInt 4 = 4 := by decide
theorem ic_5 : Int32.ofInt 5 = 5 := by decide
theorem ic_6 : Int32.ofInt 6 = 6 := by decide
theorem ic_7 : Int32.ofInt 7 = 7 := by decide
theorem ic_8 : Int32.ofInt 8 = 8 := by decide
theorem ic_9 : Int32.ofInt 9 = 9 := by decide
theorem ic_10 : Int32.ofInt 10 = 10 := by decide
theorem ic_12 : Int32.ofInt 12 = 12 := by decide
theorem ic_16 : Int32.ofInt 16 = 16 := by decide
theorem ic_20 : Int32.ofInt 20 = 20 := by decide
theorem ic_31 : Int32.ofInt 31 = 31 := by decide
theorem ic_33 : Int32.ofInt 33 = 33 := by decide
theorem ic_38 : Int32.ofInt 38 = 38 := by decide
theorem ic_40 : Int32.ofInt 40 = 40 := by decide
theorem ic_41 : Int32.ofInt 41 = 41 := by decide
theorem ic_47 : Int32.ofInt 47 = 47 := by decide
theorem ic_55 : Int32.ofInt 55 = 55 := by decide
theorem ic_59 : Int32.ofInt 59 = 59 := by decide
theorem ic_61 : Int32.ofInt 61 = 61 := by decide
theorem ic_62 : Int32.ofInt 62 = 62 := by decide
theorem ic_63 : Int32.ofInt 63 = 63 := by decide
theorem ic_64 : Int32.ofInt 64 = 64 := by decide
theorem ic_70 : Int32.ofInt 70 = 70 := by decide
theorem ic_84 : Int32.ofInt 84 = 84 := by decide
theorem ic_91 : Int32.ofInt 91 = 91 := by decide
theorem ic_112 : Int32.ofInt 112 = 112 := by decide
theorem ic_115 : Int32.ofInt 115 = 115 := by decide
theorem ic_123 : Int32.ofInt 123 = 123 := by decide
theorem ic_124 : Int32.ofInt 124 = 124 := by decide
theorem ic_200 : Int32.ofInt 200 = 200 := by decide
theorem ic_255 : Int32.ofInt 255 = 255 := by decide
theorem bp_m33 : (Int8.ofInt (-33)).toInt32 = (-33) := by decide
theorem bp_m17 : (Int8.ofInt (-17)).toInt32 = (-17) := by decide
theorem bp_m10 : (Int8.ofInt (-10)).toInt32 = (-10) := by decide
theorem bp_m9 : (Int8.ofInt (-9)).toInt32 = (-9) := by decide
theorem bp_m5 : (Int8.ofInt (-5)).toInt32 = (-5) := by decide
theorem bp_m3 : (Int8.ofInt (-3)).toInt32 = (-3) := by decide
theorem bp_m2 : (Int8.ofInt (-2)).toInt32 = (-2) := by decide
theorem bp_6 : (Int8.ofInt (6)).toInt32 = (6) := by decide
theorem bp_7 : (Int8.ofInt (7)).toInt32 = (7) := by decide
theorem bp_8 : (Int8.ofInt (8)).toInt32 = (8) := by decide
theorem bp_9 : (Int8.ofInt (9)).toInt32 = (9) := by decide
theorem bp_10 : (Int8.ofInt (10)).toInt32 = (10) := by decide
theorem bp_12 : (Int8.ofInt (12)).toInt32 = (12) := by decide
theorem bp_16 : (Int8.ofInt (16)).toInt32 = (16) := by decide
theorem bp_20 : (Int8.ofInt (20)).toInt32 = (20) := by decide
theorem bp_31 : (Int8.ofInt (31)).toInt32 = (31) := by decide
theorem bp_33 : (Int8.ofInt (33)).toInt32 = (33) := by decide
theorem bp_38 : (Int8.ofInt (38)).toInt32 = (38) := by decide
theorem bp_40 : (Int8.ofInt (40)).toInt32 = (40) := by decide
theorem bp_41 : (Int8.ofInt (41)).toInt32 = (41) := by decide
theorem bp_47 : (Int8.ofInt (47)).toInt32 = (47) := by decide
theorem bp_55 : (Int8.ofInt (55)).toInt32 = (55) := by decide
theorem bp_59 : (Int8.ofInt (59)).toInt32 = (59) := by decide
theorem bp_61 : (Int8.ofInt (61)).toInt32 = (61) := by decide
theorem bp_62 : (Int8.ofInt (62)).toInt32 = (62) := by decide
theorem bp_63 : (Int8.ofInt (63)).toInt32 = (63) := by decide
theorem bp_64 : (Int8.ofInt (64)).toInt32 = (64) := by decide
theorem bp_70 : (Int8.ofInt (70)).toInt32 = (70) := by decide
theorem bp_84 : (Int8.ofInt (84)).toInt32 = (84) := by decide
theorem bp_91 : (Int8.ofInt (91)).toInt32 = (91) := by decide
theorem bp_112 : (Int8.ofInt (112)).toInt32 = (112) := by decide
theorem bp_115 : (Int8.ofInt (115)).toInt32 = (115) := by decide
theorem bp_123 : (Int8.ofInt (123)).toInt32 = (123) := by decide
theorem bp_124 : (Int8.ofInt (124)).toInt32 = (124) := by decide
theorem sp_200 : (Int16.ofInt (200)).toInt32 = (200) := by decide
theorem sp_255 : (Int16.ofInt (255)).toInt32 = (255) := by decide
theorem mm_max : Cond.static Lib.Math.max.name ∈ am_AWS ∧ Cond.initialized "java/lang/Math" ∈ am_AWS ∧ Cond.code Lib.Math.max.name Lib.Math.max.code 2 (some .int) ∈ am_AWS := ⟨am_c6 (i := 15) rfl rfl, am_c2 (i := 11) rfl rfl, am_c6 (i := 16) rfl rfl⟩
theorem mm_min : Cond.static Lib.Math.min.name ∈ am_AWS ∧ Cond.initialized "java/lang/Math" ∈ am_AWS ∧ Cond.code Lib.Math.min.name Lib.Math.min.code 2 (some .int) ∈ am_AWS := ⟨am_c13 (i := 31) rfl rfl, am_c2 (i := 11) rfl rfl, am_c14 (i := 0) rfl rfl⟩
theorem nar_0 : vp_nar .boolean 0 = 0 := by decide
theorem nar_1 : vp_nar .boolean 1 = 1 := by decide
theorem fk_0_0 : am_fk 0 0 = (2, 8) := rfl
theorem fk_0_1 : am_fk 0 1 = (2, 4) := rfl
theorem fk_0_2 : am_fk 0 2 = (0, 0) := rfl
theorem fk_1_0 : am_fk 1 0 = (2, 20) := rfl
theorem fk_1_1 : am_fk 1 1 = (2, 20) := rfl
theorem fk_1_2 : am_fk 1 2 = (2, 20) := rfl
theorem fk_1_3 : am_fk 1 3 = (2, 20) := rfl
theorem fk_1_4 : am_fk 1 4 = (0, 0) := rfl
theorem fk_1_5 : am_fk 1 5 = (0, 0) := rfl
theorem fk_2_0 : am_fk 2 0 = (2, 40) := rfl
theorem fk_2_1 : am_fk 2 1 = (2, 40) := rfl
theorem fk_2_2 : am_fk 2 2 = (2, 40) := rfl
theorem fk_2_3 : am_fk 2 3 = (2, 40) := rfl
theorem fk_2_4 : am_fk 2 4 = (2, 40) := rfl
theorem fk_2_5 : am_fk 2 5 = (0, 0) := rfl
theorem fk_2_6 : am_fk 2 6 = (0, 0) := rfl
theorem fk_3_0 : am_fk 3 0 = (2, 81) := rfl
theorem fk_3_1 : am_fk 3 1 = (2, 81) := rfl
theorem fk_3_2 : am_fk 3 2 = (2, 1024) := rfl
theorem fk_3_3 : am_fk 3 3 = (2, 1024) := rfl
theorem fk_3_4 : am_fk 3 4 = (2, 1024) := rfl
theorem fk_3_5 : am_fk 3 5 = (2, 1024) := rfl
theorem fk_3_6 : am_fk 3 6 = (2, 1024) := rfl
theorem fk_3_7 : am_fk 3 7 = (0, 0) := rfl
theorem fk_3_8 : am_fk 3 8 = (0, 0) := rfl
theorem fk_3_9 : am_fk 3 9 = (0, 0) := rfl
theorem fk_3_10 : am_fk 3 10 = (0, 0) := rfl
theorem fk_3_11 : am_fk 3 11 = (0, 0) := rfl
theorem fk_3_12 : am_fk 3 12 = (0, 0) := rfl
theorem fk_3_13 : am_fk 3 13 = (0, 0) := rfl
theorem fk_4_0 : am_fk 4 0 = (2, 8) := rfl
theorem fk_4_1 : am_fk 4 1 = (2, 40) := rfl
theorem fk_4_2 : am_fk 4 2 = (2, 8) := rfl
theorem fk_4_3 : am_fk 4 3 = (2, 8) := rfl
theorem fk_4_4 : am_fk 4 4 = (0, 0) := rfl
theorem fk_5_0 : am_fk 5 0 = (3, 1) := rfl
theorem fk_5_1 : am_fk 5 1 = (3, 2) := rfl
theorem fk_5_2 : am_fk 5 2 = (3, 3) := rfl
theorem fk_5_3 : am_fk 5 3 = (3, 4) := rfl
theorem fk_5_4 : am_fk 5 4 = (5, 6) := rfl
theorem fk_5_5 : am_fk 5 5 = (3, 5) := rfl
theorem fk_5_6 : am_fk 5 6 = (2, 40) := rfl
theorem fk_5_7 : am_fk 5 7 = (2, 4) := rfl
theorem fk_5_8 : am_fk 5 8 = (2, 200) := rfl
theorem fk_5_9 : am_fk 5 9 = (0, 0) := rfl
theorem fk_5_10 : am_fk 5 10 = (1, 0) := rfl
theorem fk_6_0 : am_fk 6 0 = (0, 0) := rfl
theorem fk_6_1 : am_fk 6 1 = (1, 0) := rfl
theorem fk_6_2 : am_fk 6 2 = (0, 0) := rfl
theorem fk_6_3 : am_fk 6 3 = (2, 8) := rfl
theorem fk_6_4 : am_fk 6 4 = (2, 4) := rfl
theorem fk_6_5 : am_fk 6 5 = (2, 200) := rfl
theorem fk_6_6 : am_fk 6 6 = (0, 0) := rfl
theorem fk_6_7 : am_fk 6 7 = (2, 1200) := rfl
theorem fk_6_8 : am_fk 6 8 = (2, 6) := rfl
theorem fk_6_9 : am_fk 6 9 = (2, 6) := rfl
theorem fk_6_10 : am_fk 6 10 = (2, 240) := rfl
theorem fk_6_11 : am_fk 6 11 = (2, 240) := rfl
theorem fk_6_12 : am_fk 6 12 = (2, 240) := rfl
theorem fk_6_13 : am_fk 6 13 = (2, 240) := rfl
theorem fk_6_14 : am_fk 6 14 = (2, 240) := rfl
theorem fk_6_15 : am_fk 6 15 = (0, 0) := rfl
theorem fk_6_16 : am_fk 6 16 = (0, 0) := rfl
theorem fk_6_17 : am_fk 6 17 = (2, 40) := rfl
theorem fk_6_18 : am_fk 6 18 = (2, 40) := rfl
theorem fk_6_19 : am_fk 6 19 = (2, 40) := rfl
theorem fk_6_20 : am_fk 6 20 = (2, 40) := rfl
theorem fk_6_21 : am_fk 6 21 = (2, 40) := rfl
theorem fk_6_22 : am_fk 6 22 = (2, 20) := rfl
theorem fk_6_23 : am_fk 6 23 = (2, 20) := rfl
theorem fk_6_24 : am_fk 6 24 = (2, 20) := rfl
theorem fk_6_25 : am_fk 6 25 = (2, 20) := rfl
theorem fk_6_26 : am_fk 6 26 = (0, 0) := rfl
theorem fk_6_27 : am_fk 6 27 = (0, 0) := rfl
theorem fk_6_28 : am_fk 6 28 = (2, 420) := rfl
theorem fk_6_29 : am_fk 6 29 = (2, 90) := rfl
theorem fk_6_30 : am_fk 6 30 = (2, 90) := rfl
theorem fk_6_31 : am_fk 6 31 = (2, 90) := rfl
theorem fk_6_32 : am_fk 6 32 = (2, 90) := rfl
theorem fk_6_33 : am_fk 6 33 = (2, 90) := rfl
theorem fk_6_34 : am_fk 6 34 = (2, 90) := rfl
theorem fk_6_35 : am_fk 6 35 = (0, 0) := rfl
theorem fk_6_36 : am_fk 6 36 = (2, 10) := rfl
theorem fk_6_37 : am_fk 6 37 = (2, 90) := rfl
theorem fk_6_38 : am_fk 6 38 = (2, 1024) := rfl
theorem fk_6_39 : am_fk 6 39 = (2, 1024) := rfl
theorem fk_6_40 : am_fk 6 40 = (4, 1024) := rfl
theorem fk_6_41 : am_fk 6 41 = (2, 1024) := rfl
theorem fk_6_42 : am_fk 6 42 = (4, 1024) := rfl
theorem fk_6_43 : am_fk 6 43 = (2, 1024) := rfl
theorem fk_6_44 : am_fk 6 44 = (0, 0) := rfl
theorem fk_6_45 : am_fk 6 45 = (0, 0) := rfl
theorem fk_6_46 : am_fk 6 46 = (2, 8) := rfl
theorem fk_6_47 : am_fk 6 47 = (2, 8) := rfl
theorem fk_6_48 : am_fk 6 48 = (2, 8) := rfl
theorem fk_6_49 : am_fk 6 49 = (2, 64) := rfl
theorem cl_false_0 : am_cls false 0 = 5 := rfl
theorem cl_false_1 : am_cls false 1 = 0 := rfl
theorem cl_false_2 : am_cls false 2 = 4 := rfl
theorem cl_false_3 : am_cls false 3 = 1 := rfl
theorem cl_false_4 : am_cls false 4 = 3 := rfl
theorem cl_false_5 : am_cls false 5 = 2 := rfl
theorem cl_true_0 : am_cls true 0 = 6 := rfl
theorem aK_false_0_5 : am_aK false 0 5 = 5 := rfl
theorem aL_false_0_5 : am_aL false 0 5 = 6 := rfl
theorem aK_false_0_7 : am_aK false 0 7 = 2 := rfl
theorem aL_false_0_7 : am_aL false 0 7 = 40 := rfl
theorem aK_false_0_8 : am_aK false 0 8 = 2 := rfl
theorem aL_false_0_8 : am_aL false 0 8 = 4 := rfl
theorem aK_false_0_9 : am_aK false 0 9 = 2 := rfl
theorem aL_false_0_9 : am_aL false 0 9 = 200 := rfl
theorem aK_false_1_1 : am_aK false 1 1 = 2 := rfl
theorem aL_false_1_1 : am_aL false 1 1 = 8 := rfl
theorem aK_false_1_2 : am_aK false 1 2 = 2 := rfl
theorem aL_false_1_2 : am_aL false 1 2 = 4 := rfl
theorem aK_false_2_1 : am_aK false 2 1 = 2 := rfl
theorem aL_false_2_1 : am_aL false 2 1 = 8 := rfl
theorem aK_false_2_2 : am_aK false 2 2 = 2 := rfl
theorem aL_false_2_2 : am_aL false 2 2 = 40 := rfl
theorem aK_false_2_3 : am_aK false 2 3 = 2 := rfl
theorem aL_false_2_3 : am_aL false 2 3 = 8 := rfl
theorem aK_false_2_4 : am_aK false 2 4 = 2 := rfl
theorem aL_false_2_4 : am_aL false 2 4 = 8 := rfl
theorem aK_false_3_1 : am_aK false 3 1 = 2 := rfl
theorem aL_false_3_1 : am_aL false 3 1 = 20 := rfl
theorem aK_false_3_2 : am_aK false 3 2 = 2 := rfl
theorem aL_false_3_2 : am_aL false 3 2 = 20 := rfl
theorem aK_false_3_3 : am_aK false 3 3 = 2 := rfl
theorem aL_false_3_3 : am_aL false 3 3 = 20 := rfl
theorem aK_false_3_4 : am_aK false 3 4 = 2 := rfl
theorem aL_false_3_4 : am_aL false 3 4 = 20 := rfl
theorem aK_false_4_1 : am_aK false 4 1 = 2 := rfl
theorem aL_false_4_1 : am_aL false 4 1 = 81 := rfl
theorem aK_false_4_2 : am_aK false 4 2 = 2 := rfl
theorem aL_false_4_2 : am_aL false 4 2 = 81 := rfl
theorem aK_false_4_3 : am_aK false 4 3 = 2 := rfl
theorem aL_false_4_3 : am_aL false 4 3 = 1024 := rfl
theorem aK_false_4_4 : am_aK false 4 4 = 2 := rfl
theorem aL_false_4_4 : am_aL false 4 4 = 1024 := rfl
theorem aK_false_4_5 : am_aK false 4 5 = 2 := rfl
theorem aL_false_4_5 : am_aL false 4 5 = 1024 := rfl
theorem aK_false_4_6 : am_aK false 4 6 = 2 := rfl
theorem aL_false_4_6 : am_aL false 4 6 = 1024 := rfl
theorem aK_false_4_7 : am_aK false 4 7 = 2 := rfl
theorem aL_false_4_7 : am_aL false 4 7 = 1024 := rfl
theorem aK_true_0_10 : am_aK true 0 10 = 2 := rfl
theorem aL_true_0_10 : am_aL true 0 10 = 6 := rfl
theorem aK_true_0_11 : am_aK true 0 11 = 2 := rfl
theorem aL_true_0_11 : am_aL true 0 11 = 240 := rfl
theorem aK_true_0_12 : am_aK true 0 12 = 2 := rfl
theorem aL_true_0_12 : am_aL true 0 12 = 240 := rfl
theorem aK_true_0_13 : am_aK true 0 13 = 2 := rfl
theorem aL_true_0_13 : am_aL true 0 13 = 240 := rfl
theorem aK_true_0_14 : am_aK true 0 14 = 2 := rfl
theorem aL_true_0_14 : am_aL true 0 14 = 240 := rfl
theorem aK_true_0_15 : am_aK true 0 15 = 2 := rfl
theorem aL_true_0_15 : am_aL true 0 15 = 240 := rfl
theorem aK_true_0_18 : am_aK true 0 18 = 2 := rfl
theorem aL_true_0_18 : am_aL true 0 18 = 40 := rfl
theorem aK_true_0_19 : am_aK true 0 19 = 2 := rfl
theorem aL_true_0_19 : am_aL true 0 19 = 40 := rfl
theorem aK_true_0_20 : am_aK true 0 20 = 2 := rfl
theorem aL_true_0_20 : am_aL true 0 20 = 40 := rfl
theorem aK_true_0_21 : am_aK true 0 21 = 2 := rfl
theorem aL_true_0_21 : am_aL true 0 21 = 40 := rfl
theorem aK_true_0_22 : am_aK true 0 22 = 2 := rfl
theorem aL_true_0_22 : am_aL true 0 22 = 40 := rfl
theorem aK_true_0_23 : am_aK true 0 23 = 2 := rfl
theorem aL_true_0_23 : am_aL true 0 23 = 20 := rfl
theorem aK_true_0_24 : am_aK true 0 24 = 2 := rfl
theorem aL_true_0_24 : am_aL true 0 24 = 20 := rfl
theorem aK_true_0_25 : am_aK true 0 25 = 2 := rfl
theorem aL_true_0_25 : am_aL true 0 25 = 20 := rfl
theorem aK_true_0_26 : am_aK true 0 26 = 2 := rfl
theorem aL_true_0_26 : am_aL true 0 26 = 20 := rfl
theorem aK_true_0_29 : am_aK true 0 29 = 2 := rfl
theorem aL_true_0_29 : am_aL true 0 29 = 420 := rfl
theorem aK_true_0_30 : am_aK true 0 30 = 2 := rfl
theorem aL_true_0_30 : am_aL true 0 30 = 90 := rfl
theorem aK_true_0_31 : am_aK true 0 31 = 2 := rfl
theorem aL_true_0_31 : am_aL true 0 31 = 90 := rfl
theorem aK_true_0_32 : am_aK true 0 32 = 2 := rfl
theorem aL_true_0_32 : am_aL true 0 32 = 90 := rfl
theorem aK_true_0_33 : am_aK true 0 33 = 2 := rfl
theorem aL_true_0_33 : am_aL true 0 33 = 90 := rfl
theorem aK_true_0_34 : am_aK true 0 34 = 2 := rfl
theorem aL_true_0_34 : am_aL true 0 34 = 90 := rfl
theorem aK_true_0_35 : am_aK true 0 35 = 2 := rfl
theorem aL_true_0_35 : am_aL true 0 35 = 90 := rfl
theorem aK_true_0_37 : am_aK true 0 37 = 2 := rfl
theorem aL_true_0_37 : am_aL true 0 37 = 10 := rfl
theorem aK_true_0_38 : am_aK true 0 38 = 2 := rfl
theorem aL_true_0_38 : am_aL true 0 38 = 90 := rfl
theorem aK_true_0_39 : am_aK true 0 39 = 2 := rfl
theorem aL_true_0_39 : am_aL true 0 39 = 1024 := rfl
theorem aK_true_0_4 : am_aK true 0 4 = 2 := rfl
theorem aL_true_0_4 : am_aL true 0 4 = 8 := rfl
theorem aK_true_0_40 : am_aK true 0 40 = 2 := rfl
theorem aL_true_0_40 : am_aL true 0 40 = 1024 := rfl
theorem aK_true_0_41 : am_aK true 0 41 = 4 := rfl
theorem aL_true_0_41 : am_aL true 0 41 = 1024 := rfl
theorem aK_true_0_42 : am_aK true 0 42 = 2 := rfl
theorem aL_true_0_42 : am_aL true 0 42 = 1024 := rfl
theorem aK_true_0_43 : am_aK true 0 43 = 4 := rfl
theorem aL_true_0_43 : am_aL true 0 43 = 1024 := rfl
theorem aK_true_0_44 : am_aK true 0 44 = 2 := rfl
theorem aL_true_0_44 : am_aL true 0 44 = 1024 := rfl
theorem aK_true_0_47 : am_aK true 0 47 = 2 := rfl
theorem aL_true_0_47 : am_aL true 0 47 = 8 := rfl
theorem aK_true_0_48 : am_aK true 0 48 = 2 := rfl
theorem aL_true_0_48 : am_aL true 0 48 = 8 := rfl
theorem aK_true_0_49 : am_aK true 0 49 = 2 := rfl
theorem aL_true_0_49 : am_aL true 0 49 = 8 := rfl
theorem aK_true_0_5 : am_aK true 0 5 = 2 := rfl
theorem aL_true_0_5 : am_aL true 0 5 = 4 := rfl
theorem aK_true_0_50 : am_aK true 0 50 = 2 := rfl
theorem aL_true_0_50 : am_aL true 0 50 = 64 := rfl
theorem aK_true_0_6 : am_aK true 0 6 = 2 := rfl
theorem aL_true_0_6 : am_aL true 0 6 = 200 := rfl
theorem aK_true_0_8 : am_aK true 0 8 = 2 := rfl
theorem aL_true_0_8 : am_aL true 0 8 = 1200 := rfl
theorem aK_true_0_9 : am_aK true 0 9 = 2 := rfl
theorem aL_true_0_9 : am_aL true 0 9 = 6 := rfl
theorem fl_RX5_12 : am_fld RX5 12 5 0 := ⟨_, _, _, rfl, by decide, am_c7 (i := 7) rfl rfl, rfl⟩
theorem fl_RX5_19 : am_fld RX5 19 5 1 := ⟨_, _, _, rfl, by decide, am_c7 (i := 8) rfl rfl, rfl⟩
theorem fl_RX5_26 : am_fld RX5 26 5 2 := ⟨_, _, _, rfl, by decide, am_c7 (i := 9) rfl rfl, rfl⟩
theorem fl_RX5_33 : am_fld RX5 33 5 3 := ⟨_, _, _, rfl, by decide, am_c7 (i := 10) rfl rfl, rfl⟩
theorem fl_RX5_39 : am_fld RX5 39 5 4 := ⟨_, _, _, rfl, by decide, am_c7 (i := 11) rfl rfl, rfl⟩
theorem fl_RX5_46 : am_fld RX5 46 5 5 := ⟨_, _, _, rfl, by decide, am_c7 (i := 12) rfl rfl, rfl⟩
theorem fl_RX5_50 : am_fld RX5 50 5 6 := ⟨_, _, _, rfl, by decide, am_c7 (i := 13) rfl rfl, rfl⟩
theorem fl_RX5_54 : am_fld RX5 54 5 7 := ⟨_, _, _, rfl, by decide, am_c7 (i := 14) rfl rfl, rfl⟩
theorem fl_RX5_57 : am_fld RX5 57 5 8 := ⟨_, _, _, rfl, by decide, am_c7 (i := 15) rfl rfl, rfl⟩
theorem fl_RX5_60 : am_fld RX5 60 5 9 := ⟨_, _, _, rfl, by decide, am_c7 (i := 16) rfl rfl, rfl⟩
theorem fl_RX5_64 : am_fld RX5 64 5 10 := ⟨_, _, _, rfl, by decide, am_c7 (i := 17) rfl rfl, rfl⟩
theorem fl_RX0_9 : am_fld RX0 9 0 0 := ⟨_, _, _, rfl, by decide, am_c2 (i := 28) rfl rfl, rfl⟩
theorem fl_RX0_15 : am_fld RX0 15 0 1 := ⟨_, _, _, rfl, by decide, am_c2 (i := 29) rfl rfl, rfl⟩
theorem fl_RX0_18 : am_fld RX0 18 0 2 := ⟨_, _, _, rfl, by decide, am_c2 (i := 30) rfl rfl, rfl⟩
theorem fl_RX1_9 : am_fld RX1 9 1 0 := ⟨_, _, _, rfl, by decide, am_c4 (i := 3) rfl rfl, rfl⟩
theorem fl_RX1_15 : am_fld RX1 15 1 1 := ⟨_, _, _, rfl, by decide, am_c4 (i := 4) rfl rfl, rfl⟩
theorem fl_RX1_18 : am_fld RX1 18 1 2 := ⟨_, _, _, rfl, by decide, am_c4 (i := 5) rfl rfl, rfl⟩
theorem fl_RX1_21 : am_fld RX1 21 1 3 := ⟨_, _, _, rfl, by decide, am_c4 (i := 6) rfl rfl, rfl⟩
theorem fl_RX1_24 : am_fld RX1 24 1 4 := ⟨_, _, _, rfl, by decide, am_c4 (i := 7) rfl rfl, rfl⟩
theorem fl_RX1_28 : am_fld RX1 28 1 5 := ⟨_, _, _, rfl, by decide, am_c4 (i := 8) rfl rfl, rfl⟩
theorem fl_RX2_9 : am_fld RX2 9 2 5 := ⟨_, _, _, rfl, by decide, am_c6 (i := 22) rfl rfl, rfl⟩
theorem fl_RX2_15 : am_fld RX2 15 2 6 := ⟨_, _, _, rfl, by decide, am_c6 (i := 23) rfl rfl, rfl⟩
theorem fl_RX2_24 : am_fld RX2 24 2 0 := ⟨_, _, _, rfl, by decide, am_c6 (i := 17) rfl rfl, rfl⟩
theorem fl_RX2_28 : am_fld RX2 28 2 1 := ⟨_, _, _, rfl, by decide, am_c6 (i := 18) rfl rfl, rfl⟩
theorem fl_RX2_31 : am_fld RX2 31 2 2 := ⟨_, _, _, rfl, by decide, am_c6 (i := 19) rfl rfl, rfl⟩
theorem fl_RX2_34 : am_fld RX2 34 2 3 := ⟨_, _, _, rfl, by decide, am_c6 (i := 20) rfl rfl, rfl⟩
theorem fl_RX2_37 : am_fld RX2 37 2 4 := ⟨_, _, _, rfl, by decide, am_c6 (i := 21) rfl rfl, rfl⟩
theorem fl_RX3_9 : am_fld RX3 9 3 0 := ⟨_, _, _, rfl, by decide, am_c4 (i := 28) rfl rfl, rfl⟩
theorem fl_RX3_15 : am_fld RX3 15 3 1 := ⟨_, _, _, rfl, by decide, am_c4 (i := 29) rfl rfl, rfl⟩
theorem fl_RX3_18 : am_fld RX3 18 3 2 := ⟨_, _, _, rfl, by decide, am_c4 (i := 30) rfl rfl, rfl⟩
theorem fl_RX3_21 : am_fld RX3 21 3 3 := ⟨_, _, _, rfl, by decide, am_c4 (i := 31) rfl rfl, rfl⟩
theorem fl_RX3_24 : am_fld RX3 24 3 4 := ⟨_, _, _, rfl, by decide, am_c5 (i := 0) rfl rfl, rfl⟩
theorem fl_RX3_27 : am_fld RX3 27 3 5 := ⟨_, _, _, rfl, by decide, am_c5 (i := 1) rfl rfl, rfl⟩
theorem fl_RX3_30 : am_fld RX3 30 3 6 := ⟨_, _, _, rfl, by decide, am_c5 (i := 2) rfl rfl, rfl⟩
theorem fl_RX3_33 : am_fld RX3 33 3 7 := ⟨_, _, _, rfl, by decide, am_c5 (i := 3) rfl rfl, rfl⟩
theorem fl_RX3_37 : am_fld RX3 37 3 8 := ⟨_, _, _, rfl, by decide, am_c5 (i := 4) rfl rfl, rfl⟩
theorem fl_RX3_40 : am_fld RX3 40 3 9 := ⟨_, _, _, rfl, by decide, am_c5 (i := 5) rfl rfl, rfl⟩
theorem fl_RX3_43 : am_fld RX3 43 3 10 := ⟨_, _, _, rfl, by decide, am_c5 (i := 6) rfl rfl, rfl⟩
theorem fl_RX3_46 : am_fld RX3 46 3 11 := ⟨_, _, _, rfl, by decide, am_c5 (i := 7) rfl rfl, rfl⟩
theorem fl_RX3_49 : am_fld RX3 49 3 12 := ⟨_, _, _, rfl, by decide, am_c5 (i := 8) rfl rfl, rfl⟩
theorem fl_RX3_52 : am_fld RX3 52 3 13 := ⟨_, _, _, rfl, by decide, am_c5 (i := 9) rfl rfl, rfl⟩
theorem fl_RX4_9 : am_fld RX4 9 4 0 := ⟨_, _, _, rfl, by decide, am_c3 (i := 13) rfl rfl, rfl⟩
theorem fl_RX4_15 : am_fld RX4 15 4 1 := ⟨_, _, _, rfl, by decide, am_c3 (i := 14) rfl rfl, rfl⟩
theorem fl_RX4_18 : am_fld RX4 18 4 2 := ⟨_, _, _, rfl, by decide, am_c3 (i := 15) rfl rfl, rfl⟩
theorem fl_RX4_21 : am_fld RX4 21 4 3 := ⟨_, _, _, rfl, by decide, am_c3 (i := 16) rfl rfl, rfl⟩
theorem fl_RX4_24 : am_fld RX4 24 4 4 := ⟨_, _, _, rfl, by decide, am_c3 (i := 17) rfl rfl, rfl⟩
theorem fl_RX6_7 : am_fld RX6 7 6 2 := ⟨_, _, _, rfl, by decide, am_c23 (i := 19) rfl rfl, rfl⟩
theorem fl_RX6_13 : am_fld RX6 13 6 3 := ⟨_, _, _, rfl, by decide, am_c23 (i := 20) rfl rfl, rfl⟩
theorem fl_RX6_17 : am_fld RX6 17 6 4 := ⟨_, _, _, rfl, by decide, am_c23 (i := 21) rfl rfl, rfl⟩
theorem fl_RX6_20 : am_fld RX6 20 6 5 := ⟨_, _, _, rfl, by decide, am_c23 (i := 22) rfl rfl, rfl⟩
theorem fl_RX6_23 : am_fld RX6 23 6 7 := ⟨_, _, _, rfl, by decide, am_c23 (i := 24) rfl rfl, rfl⟩
theorem fl_RX6_26 : am_fld RX6 26 6 8 := ⟨_, _, _, rfl, by decide, am_c23 (i := 25) rfl rfl, rfl⟩
theorem fl_RX6_29 : am_fld RX6 29 6 9 := ⟨_, _, _, rfl, by decide, am_c23 (i := 26) rfl rfl, rfl⟩
theorem fl_RX6_32 : am_fld RX6 32 6 10 := ⟨_, _, _, rfl, by decide, am_c23 (i := 27) rfl rfl, rfl⟩
theorem fl_RX6_35 : am_fld RX6 35 6 11 := ⟨_, _, _, rfl, by decide, am_c23 (i := 28) rfl rfl, rfl⟩
theorem fl_RX6_38 : am_fld RX6 38 6 12 := ⟨_, _, _, rfl, by decide, am_c23 (i := 29) rfl rfl, rfl⟩
theorem fl_RX6_41 : am_fld RX6 41 6 13 := ⟨_, _, _, rfl, by decide, am_c23 (i := 30) rfl rfl, rfl⟩
theorem fl_RX6_44 : am_fld RX6 44 6 14 := ⟨_, _, _, rfl, by decide, am_c23 (i := 31) rfl rfl, rfl⟩
theorem fl_RX6_47 : am_fld RX6 47 6 17 := ⟨_, _, _, rfl, by decide, am_c24 (i := 2) rfl rfl, rfl⟩
theorem fl_RX6_50 : am_fld RX6 50 6 18 := ⟨_, _, _, rfl, by decide, am_c24 (i := 3) rfl rfl, rfl⟩
theorem fl_RX6_53 : am_fld RX6 53 6 19 := ⟨_, _, _, rfl, by decide, am_c24 (i := 4) rfl rfl, rfl⟩
theorem fl_RX6_56 : am_fld RX6 56 6 20 := ⟨_, _, _, rfl, by decide, am_c24 (i := 5) rfl rfl, rfl⟩
theorem fl_RX6_59 : am_fld RX6 59 6 21 := ⟨_, _, _, rfl, by decide, am_c24 (i := 6) rfl rfl, rfl⟩
theorem fl_RX6_62 : am_fld RX6 62 6 22 := ⟨_, _, _, rfl, by decide, am_c24 (i := 7) rfl rfl, rfl⟩
theorem fl_RX6_65 : am_fld RX6 65 6 23 := ⟨_, _, _, rfl, by decide, am_c24 (i := 8) rfl rfl, rfl⟩
theorem fl_RX6_68 : am_fld RX6 68 6 24 := ⟨_, _, _, rfl, by decide, am_c24 (i := 9) rfl rfl, rfl⟩
theorem fl_RX6_71 : am_fld RX6 71 6 25 := ⟨_, _, _, rfl, by decide, am_c24 (i := 10) rfl rfl, rfl⟩
theorem fl_RX6_74 : am_fld RX6 74 6 28 := ⟨_, _, _, rfl, by decide, am_c24 (i := 13) rfl rfl, rfl⟩
theorem fl_RX6_77 : am_fld RX6 77 6 29 := ⟨_, _, _, rfl, by decide, am_c24 (i := 14) rfl rfl, rfl⟩
theorem fl_RX6_80 : am_fld RX6 80 6 30 := ⟨_, _, _, rfl, by decide, am_c24 (i := 15) rfl rfl, rfl⟩
theorem fl_RX6_83 : am_fld RX6 83 6 31 := ⟨_, _, _, rfl, by decide, am_c24 (i := 16) rfl rfl, rfl⟩
theorem fl_RX6_86 : am_fld RX6 86 6 32 := ⟨_, _, _, rfl, by decide, am_c24 (i := 17) rfl rfl, rfl⟩
theorem fl_RX6_89 : am_fld RX6 89 6 33 := ⟨_, _, _, rfl, by decide, am_c24 (i := 18) rfl rfl, rfl⟩
theorem fl_RX6_92 : am_fld RX6 92 6 34 := ⟨_, _, _, rfl, by decide, am_c24 (i := 19) rfl rfl, rfl⟩
theorem fl_RX6_95 : am_fld RX6 95 6 36 := ⟨_, _, _, rfl, by decide, am_c24 (i := 21) rfl rfl, rfl⟩
theorem fl_RX6_98 : am_fld RX6 98 6 37 := ⟨_, _, _, rfl, by decide, am_c24 (i := 22) rfl rfl, rfl⟩
theorem fl_RX6_101 : am_fld RX6 101 6 38 := ⟨_, _, _, rfl, by decide, am_c24 (i := 23) rfl rfl, rfl⟩
theorem fl_RX6_104 : am_fld RX6 104 6 39 := ⟨_, _, _, rfl, by decide, am_c24 (i := 24) rfl rfl, rfl⟩
theorem fl_RX6_107 : am_fld RX6 107 6 40 := ⟨_, _, _, rfl, by decide, am_c24 (i := 25) rfl rfl, rfl⟩
theorem fl_RX6_111 : am_fld RX6 111 6 41 := ⟨_, _, _, rfl, by decide, am_c24 (i := 26) rfl rfl, rfl⟩
theorem fl_RX6_114 : am_fld RX6 114 6 42 := ⟨_, _, _, rfl, by decide, am_c24 (i := 27) rfl rfl, rfl⟩
theorem fl_RX6_117 : am_fld RX6 117 6 43 := ⟨_, _, _, rfl, by decide, am_c24 (i := 28) rfl rfl, rfl⟩
theorem fl_RX6_120 : am_fld RX6 120 6 46 := ⟨_, _, _, rfl, by decide, am_c24 (i := 31) rfl rfl, rfl⟩
theorem fl_RX6_123 : am_fld RX6 123 6 47 := ⟨_, _, _, rfl, by decide, am_c25 (i := 0) rfl rfl, rfl⟩
theorem fl_RX6_126 : am_fld RX6 126 6 48 := ⟨_, _, _, rfl, by decide, am_c25 (i := 1) rfl rfl, rfl⟩
theorem fl_RX6_129 : am_fld RX6 129 6 49 := ⟨_, _, _, rfl, by decide, am_c25 (i := 2) rfl rfl, rfl⟩
theorem fl_RX6_132 : am_fld RX6 132 6 0 := ⟨_, _, _, rfl, by decide, am_c23 (i := 17) rfl rfl, rfl⟩
theorem fl_RX6_154 : am_fld RX6 154 6 1 := ⟨_, _, _, rfl, by decide, am_c23 (i := 18) rfl rfl, rfl⟩
theorem fl_RX6_171 : am_fld RX6 171 6 6 := ⟨_, _, _, rfl, by decide, am_c23 (i := 23) rfl rfl, rfl⟩
theorem fl_RX6_176 : am_fld RX6 176 6 15 := ⟨_, _, _, rfl, by decide, am_c24 (i := 0) rfl rfl, rfl⟩
theorem fl_RX6_179 : am_fld RX6 179 6 16 := ⟨_, _, _, rfl, by decide, am_c24 (i := 1) rfl rfl, rfl⟩
theorem fl_RX6_202 : am_fld RX6 202 6 26 := ⟨_, _, _, rfl, by decide, am_c24 (i := 11) rfl rfl, rfl⟩
theorem fl_RX6_205 : am_fld RX6 205 6 27 := ⟨_, _, _, rfl, by decide, am_c24 (i := 12) rfl rfl, rfl⟩
theorem fl_RX6_240 : am_fld RX6 240 6 35 := ⟨_, _, _, rfl, by decide, am_c24 (i := 20) rfl rfl, rfl⟩
theorem fl_RX6_243 : am_fld RX6 243 6 44 := ⟨_, _, _, rfl, by decide, am_c24 (i := 29) rfl rfl, rfl⟩
theorem fl_RX6_246 : am_fld RX6 246 6 45 := ⟨_, _, _, rfl, by decide, am_c24 (i := 30) rfl rfl, rfl⟩
theorem e_RX5_68 : am_eV RX5 68 KX0_size := ⟨am_c8 (i := 13) rfl rfl, am_c8 (i := 14) rfl rfl, am_c8 (i := 15) rfl rfl⟩
theorem e_RX5_72 : am_eV RX5 72 KX0_begin := ⟨am_c8 (i := 17) rfl rfl, am_c8 (i := 18) rfl rfl, am_c8 (i := 19) rfl rfl⟩
theorem e_RX5_75 : am_eV RX5 75 KX0_has := ⟨am_c8 (i := 28) rfl rfl, am_c8 (i := 29) rfl rfl, am_c8 (i := 30) rfl rfl⟩
theorem e_RX5_79 : am_eS RX5 79 KX5_isWhether := ⟨am_c9 (i := 0) rfl rfl, am_c9 (i := 1) rfl rfl⟩
theorem e_RX5_82 : am_eV RX5 82 KX0_seenBy := ⟨am_c9 (i := 3) rfl rfl, am_c9 (i := 4) rfl rfl, am_c9 (i := 5) rfl rfl⟩
theorem e_RX5_86 : am_eS RX5 86 KX5_bit := ⟨am_c9 (i := 29) rfl rfl, am_c9 (i := 19) rfl rfl⟩
theorem e_RX5_89 : am_eV RX5 89 KX0_let := ⟨am_c9 (i := 30) rfl rfl, am_c9 (i := 31) rfl rfl, am_c10 (i := 0) rfl rfl⟩
theorem e_RX5_93 : am_eV RX5 93 KX0_all := ⟨am_c10 (i := 6) rfl rfl, am_c10 (i := 7) rfl rfl, am_c10 (i := 8) rfl rfl⟩
theorem e_RX5_96 : am_eV RX5 96 KX0_atoms := ⟨am_c10 (i := 10) rfl rfl, am_c10 (i := 11) rfl rfl, am_c10 (i := 12) rfl rfl⟩
theorem e_RX5_100 : am_eS RX5 100 KX5_at := ⟨am_c10 (i := 14) rfl rfl, am_c9 (i := 8) rfl rfl⟩
theorem e_RX5_104 : am_eS RX5 104 KX5_put := ⟨am_c10 (i := 15) rfl rfl, am_c8 (i := 22) rfl rfl⟩
theorem e_RX5_108 : am_eS RX5 108 KX5_isSort := ⟨am_c10 (i := 20) rfl rfl, am_c10 (i := 21) rfl rfl⟩
theorem e_RX5_114 : am_eV RX5 114 KX0_kinds := ⟨am_c10 (i := 29) rfl rfl, am_c10 (i := 30) rfl rfl, am_c10 (i := 31) rfl rfl⟩
theorem e_RX5_117 : am_eV RX5 117 KX5_sentence := ⟨am_c11 (i := 26) rfl rfl, am_c11 (i := 28) rfl rfl, am_c0 (i := 5) rfl rfl⟩
theorem e_RX5_121 : am_eV RX5 121 KX1_fault := ⟨am_c11 (i := 30) rfl rfl, am_c11 (i := 31) rfl rfl, am_c12 (i := 0) rfl rfl⟩
theorem e_RX5_125 : am_eV RX5 125 KX2_become := ⟨am_c13 (i := 26) rfl rfl, am_c13 (i := 27) rfl rfl, am_c13 (i := 28) rfl rfl⟩
theorem e_RX5_129 : am_eV RX5 129 KX2_signs := ⟨am_c14 (i := 1) rfl rfl, am_c12 (i := 12) rfl rfl, am_c12 (i := 13) rfl rfl⟩
theorem e_RX5_132 : am_eV RX5 132 KX2_depth := ⟨am_c14 (i := 6) rfl rfl, am_c14 (i := 7) rfl rfl, am_c14 (i := 8) rfl rfl⟩
theorem e_RX5_135 : am_eV RX5 135 KX2_parts := ⟨am_c14 (i := 10) rfl rfl, am_c14 (i := 11) rfl rfl, am_c14 (i := 12) rfl rfl⟩
theorem e_RX5_138 : am_eV RX5 138 KX2_atoms := ⟨am_c14 (i := 14) rfl rfl, am_c14 (i := 15) rfl rfl, am_c14 (i := 16) rfl rfl⟩
theorem e_RX5_140 : am_eV RX5 140 KX2_isPlain := ⟨am_c14 (i := 19) rfl rfl, am_c14 (i := 20) rfl rfl, am_c14 (i := 21) rfl rfl⟩
theorem e_RX5_144 : am_eS RX5 144 KX5_whether := ⟨am_c14 (i := 24) rfl rfl, am_c13 (i := 4) rfl rfl⟩
theorem e_RX5_148 : am_eV RX5 148 KX5_whereHolds := ⟨am_c14 (i := 29) rfl rfl, am_c14 (i := 31) rfl rfl, am_c0 (i := 11) rfl rfl⟩
theorem e_RX5_152 : am_eS RX5 152 KJ6_bitCount_0f7a4 := ⟨am_c16 (i := 7) rfl rfl, am_c11 (i := 9) rfl rfl⟩
theorem e_RX5_158 : am_eV RX5 158 KX4_look := ⟨am_c15 (i := 1) rfl rfl, am_c15 (i := 2) rfl rfl, am_c15 (i := 3) rfl rfl⟩
theorem e_RX5_162 : am_eV RX5 162 KX5_deal := ⟨am_c16 (i := 8) rfl rfl, am_c16 (i := 10) rfl rfl, am_c0 (i := 13) rfl rfl⟩
theorem e_RX5_166 : am_eV RX5 166 KX4_judge := ⟨am_c15 (i := 8) rfl rfl, am_c15 (i := 9) rfl rfl, am_c15 (i := 10) rfl rfl⟩
theorem e_RX5_170 : am_eS RX5 170 KX5_isLogic := ⟨am_c16 (i := 16) rfl rfl, am_c16 (i := 17) rfl rfl⟩
theorem e_RX5_173 : am_eV RX5 173 KX3_sortOut := ⟨am_c16 (i := 19) rfl rfl, am_c16 (i := 20) rfl rfl, am_c16 (i := 21) rfl rfl⟩
theorem e_RX5_177 : am_eV RX5 177 KX3_answer := ⟨am_c18 (i := 19) rfl rfl, am_c18 (i := 20) rfl rfl, am_c18 (i := 21) rfl rfl⟩
theorem e_RX5_180 : am_eV RX5 180 KX3_howMany := ⟨am_c19 (i := 12) rfl rfl, am_c19 (i := 13) rfl rfl, am_c19 (i := 14) rfl rfl⟩
theorem e_RX5_184 : am_eV RX5 184 KX3_fallOf := ⟨am_c19 (i := 16) rfl rfl, am_c19 (i := 17) rfl rfl, am_c19 (i := 18) rfl rfl⟩
theorem e_RX5_187 : am_eV RX5 187 KX2_begin := ⟨am_c19 (i := 24) rfl rfl, am_c12 (i := 3) rfl rfl, am_c12 (i := 4) rfl rfl⟩
theorem e_RX5_189 : am_eV RX5 189 KX2_takeIn := ⟨am_c19 (i := 25) rfl rfl, am_c19 (i := 26) rfl rfl, am_c19 (i := 27) rfl rfl⟩
theorem e_RX5_193 : am_eV RX5 193 KX2_part := ⟨am_c20 (i := 1) rfl rfl, am_c12 (i := 27) rfl rfl, am_c12 (i := 28) rfl rfl⟩
theorem e_RX5_197 : am_eV RX5 197 KX4_heapUp := ⟨am_c20 (i := 6) rfl rfl, am_c20 (i := 7) rfl rfl, am_c20 (i := 8) rfl rfl⟩
theorem e_RX5_201 : am_eV RX5 201 KX4_howManyHeaps := ⟨am_c20 (i := 31) rfl rfl, am_c21 (i := 0) rfl rfl, am_c21 (i := 1) rfl rfl⟩
theorem e_RX5_204 : am_eV RX5 204 KX5_depthApart := ⟨am_c21 (i := 7) rfl rfl, am_c21 (i := 9) rfl rfl, am_c0 (i := 31) rfl rfl⟩
theorem e_RX5_208 : am_eV RX5 208 KX0_isGrowing := ⟨am_c21 (i := 23) rfl rfl, am_c21 (i := 24) rfl rfl, am_c21 (i := 25) rfl rfl⟩
theorem e_RX5_211 : am_eV RX5 211 KX0_keep := ⟨am_c22 (i := 7) rfl rfl, am_c22 (i := 8) rfl rfl, am_c22 (i := 9) rfl rfl⟩
theorem e_RX5_214 : am_eV RX5 214 KX0_allLeadInto := ⟨am_c22 (i := 19) rfl rfl, am_c22 (i := 20) rfl rfl, am_c22 (i := 21) rfl rfl⟩
theorem e_RX5_217 : am_eV RX5 217 KX0_stepsOutOf := ⟨am_c22 (i := 27) rfl rfl, am_c22 (i := 28) rfl rfl, am_c22 (i := 29) rfl rfl⟩
theorem e_RX5_220 : am_eV RX5 220 KX0_pairs := ⟨am_c23 (i := 3) rfl rfl, am_c23 (i := 4) rfl rfl, am_c23 (i := 5) rfl rfl⟩
theorem e_RX5_223 : am_eV RX5 223 KX4_depthApart := ⟨am_c21 (i := 11) rfl rfl, am_c21 (i := 12) rfl rfl, am_c21 (i := 13) rfl rfl⟩
theorem e_RX5_226 : am_eS RX5 226 KX5_isModal := ⟨am_c13 (i := 13) rfl rfl, am_c13 (i := 1) rfl rfl⟩
theorem e_RX0_22 : am_eN RX0 22 KX5_put := ⟨⟨"SeenWorlds", List.mem_filter.mpr ⟨List.mem_of_getElem? (i := 277) (by decide +kernel), rfl⟩⟩, am_c8 (i := 22) rfl rfl⟩
theorem e_RX0_26 : am_eN RX0 26 KX5_at := ⟨⟨"SeenWorlds", List.mem_filter.mpr ⟨List.mem_of_getElem? (i := 295) (by decide +kernel), rfl⟩⟩, am_c9 (i := 8) rfl rfl⟩
theorem e_RX0_30 : am_eS RX0 30 KJ6_bitCount_0f7a4 := ⟨am_c11 (i := 8) rfl rfl, am_c11 (i := 9) rfl rfl⟩
theorem e_RX0_36 : am_eV RX0 36 KX0_farFrom := ⟨am_c9 (i := 10) rfl rfl, am_c9 (i := 12) rfl rfl, am_c0 (i := 0) rfl rfl⟩
theorem e_RX0_39 : am_eV RX0 39 KX0_bothWaysFrom := ⟨am_c9 (i := 21) rfl rfl, am_c9 (i := 23) rfl rfl, am_c0 (i := 2) rfl rfl⟩
theorem e_RX0_42 : am_eN RX0 42 KX5_bit := ⟨⟨"SeenWorlds", List.mem_filter.mpr ⟨List.mem_of_getElem? (i := 306) (by decide +kernel), rfl⟩⟩, am_c9 (i := 19) rfl rfl⟩
theorem e_RX0_46 : am_eV RX0 46 KX0_stepFrom := ⟨am_c9 (i := 14) rfl rfl, am_c9 (i := 16) rfl rfl, am_c0 (i := 1) rfl rfl⟩
theorem e_RX0_49 : am_eV RX0 49 KX0_stepInto := ⟨am_c9 (i := 25) rfl rfl, am_c9 (i := 27) rfl rfl, am_c0 (i := 3) rfl rfl⟩
theorem e_RX0_52 : am_eN RX0 52 KX5_within := ⟨⟨"SeenWorlds", List.mem_filter.mpr ⟨List.mem_of_getElem? (i := 353) (by decide +kernel), rfl⟩⟩, am_c11 (i := 2) rfl rfl⟩
theorem e_RX0_56 : am_eV RX0 56 KX0_allSeeEachOther := ⟨am_c11 (i := 4) rfl rfl, am_c11 (i := 6) rfl rfl, am_c0 (i := 4) rfl rfl⟩
theorem e_RX0_60 : am_eV RX0 60 KX0_closedUp := ⟨am_c22 (i := 11) rfl rfl, am_c22 (i := 13) rfl rfl, am_c1 (i := 0) rfl rfl⟩
theorem e_RX1_31 : am_eV RX1 31 KX2_begin := ⟨am_c12 (i := 2) rfl rfl, am_c12 (i := 3) rfl rfl, am_c12 (i := 4) rfl rfl⟩
theorem e_RX1_36 : am_eN RX1 36 KX5_at := ⟨⟨"SeenWorlds", List.mem_filter.mpr ⟨List.mem_of_getElem? (i := 390) (by decide +kernel), rfl⟩⟩, am_c9 (i := 8) rfl rfl⟩
theorem e_RX1_40 : am_eV RX1 40 KX1_takes := ⟨am_c12 (i := 7) rfl rfl, am_c12 (i := 9) rfl rfl, am_c0 (i := 6) rfl rfl⟩
theorem e_RX1_44 : am_eV RX1 44 KX2_signs := ⟨am_c12 (i := 11) rfl rfl, am_c12 (i := 12) rfl rfl, am_c12 (i := 13) rfl rfl⟩
theorem e_RX1_48 : am_eV RX1 48 KX2_countSign := ⟨am_c12 (i := 15) rfl rfl, am_c12 (i := 16) rfl rfl, am_c12 (i := 17) rfl rfl⟩
theorem e_RX1_51 : am_eV RX1 51 KX1_takesOne := ⟨am_c12 (i := 19) rfl rfl, am_c12 (i := 21) rfl rfl, am_c0 (i := 7) rfl rfl⟩
theorem e_RX1_54 : am_eV RX1 54 KX1_takesBetween := ⟨am_c13 (i := 15) rfl rfl, am_c13 (i := 17) rfl rfl, am_c0 (i := 9) rfl rfl⟩
theorem e_RX1_58 : am_eV RX1 58 KX1_takesClosing := ⟨am_c13 (i := 22) rfl rfl, am_c13 (i := 24) rfl rfl, am_c0 (i := 10) rfl rfl⟩
theorem e_RX1_62 : am_eN RX1 62 KX5_isAtom := ⟨⟨"SeenWorlds", List.mem_filter.mpr ⟨List.mem_of_getElem? (i := 407) (by decide +kernel), rfl⟩⟩, am_c12 (i := 24) rfl rfl⟩
theorem e_RX1_65 : am_eV RX1 65 KX2_part := ⟨am_c12 (i := 26) rfl rfl, am_c12 (i := 27) rfl rfl, am_c12 (i := 28) rfl rfl⟩
theorem e_RX1_69 : am_eV RX1 69 KX1_end := ⟨am_c13 (i := 6) rfl rfl, am_c13 (i := 8) rfl rfl, am_c0 (i := 8) rfl rfl⟩
theorem e_RX1_73 : am_eN RX1 73 KX5_isPrefix := ⟨⟨"SeenWorlds", List.mem_filter.mpr ⟨List.mem_of_getElem? (i := 426) (by decide +kernel), rfl⟩⟩, am_c13 (i := 11) rfl rfl⟩
theorem e_RX1_76 : am_eN RX1 76 KX5_put := ⟨⟨"SeenWorlds", List.mem_filter.mpr ⟨List.mem_of_getElem? (i := 430) (by decide +kernel), rfl⟩⟩, am_c8 (i := 22) rfl rfl⟩
theorem e_RX1_80 : am_eN RX1 80 KX5_isBetween := ⟨⟨"SeenWorlds", List.mem_filter.mpr ⟨List.mem_of_getElem? (i := 435) (by decide +kernel), rfl⟩⟩, am_c13 (i := 20) rfl rfl⟩
theorem e_RX2_40 : am_eN RX2 40 KX5_at := ⟨⟨"SeenWorlds", List.mem_filter.mpr ⟨List.mem_of_getElem? (i := 414) (by decide +kernel), rfl⟩⟩, am_c9 (i := 8) rfl rfl⟩
theorem e_RX2_44 : am_eV RX2 44 KX2_depth := ⟨am_c14 (i := 23) rfl rfl, am_c14 (i := 7) rfl rfl, am_c14 (i := 8) rfl rfl⟩
theorem e_RX2_48 : am_eN RX2 48 KX5_isAtom := ⟨⟨"SeenWorlds", List.mem_filter.mpr ⟨List.mem_of_getElem? (i := 466) (by decide +kernel), rfl⟩⟩, am_c12 (i := 24) rfl rfl⟩
theorem e_RX2_52 : am_eN RX2 52 KX5_put := ⟨⟨"SeenWorlds", List.mem_filter.mpr ⟨List.mem_of_getElem? (i := 415) (by decide +kernel), rfl⟩⟩, am_c8 (i := 22) rfl rfl⟩
theorem e_RX2_56 : am_eN RX2 56 KX5_isModal := ⟨⟨"SeenWorlds", List.mem_filter.mpr ⟨List.mem_of_getElem? (i := 416) (by decide +kernel), rfl⟩⟩, am_c13 (i := 1) rfl rfl⟩
theorem e_RX2_59 : am_eN RX2 59 KX5_whether := ⟨⟨"SeenWorlds", List.mem_filter.mpr ⟨List.mem_of_getElem? (i := 419) (by decide +kernel), rfl⟩⟩, am_c13 (i := 4) rfl rfl⟩
theorem e_RX2_66 : am_eS RX2 66 KX2_movedTo := ⟨am_c19 (i := 29) rfl rfl, am_c19 (i := 30) rfl rfl⟩
theorem e_RX2_69 : am_eV RX2 69 KX2_part := ⟨am_c20 (i := 0) rfl rfl, am_c12 (i := 27) rfl rfl, am_c12 (i := 28) rfl rfl⟩
theorem e_RX3_55 : am_eS RX3 55 KX3_countBits := ⟨am_c16 (i := 23) rfl rfl, am_c16 (i := 24) rfl rfl⟩
theorem e_RX3_59 : am_eV RX3 59 KX3_giveBits := ⟨am_c17 (i := 1) rfl rfl, am_c17 (i := 3) rfl rfl, am_c0 (i := 14) rfl rfl⟩
theorem e_RX3_63 : am_eV RX3 63 KX3_weigh := ⟨am_c17 (i := 14) rfl rfl, am_c17 (i := 16) rfl rfl, am_c0 (i := 16) rfl rfl⟩
theorem e_RX3_67 : am_eV RX3 67 KX3_beginWithFit := ⟨am_c17 (i := 26) rfl rfl, am_c17 (i := 28) rfl rfl, am_c0 (i := 17) rfl rfl⟩
theorem e_RX3_70 : am_eV RX3 70 KX3_anyFall := ⟨am_c18 (i := 11) rfl rfl, am_c18 (i := 13) rfl rfl, am_c0 (i := 21) rfl rfl⟩
theorem e_RX3_74 : am_eN RX3 74 KX5_isAtom := ⟨⟨"SeenWorlds", List.mem_filter.mpr ⟨List.mem_of_getElem? (i := 543) (by decide +kernel), rfl⟩⟩, am_c12 (i := 24) rfl rfl⟩
theorem e_RX3_77 : am_eN RX3 77 KX5_isModal := ⟨⟨"SeenWorlds", List.mem_filter.mpr ⟨List.mem_of_getElem? (i := 544) (by decide +kernel), rfl⟩⟩, am_c13 (i := 1) rfl rfl⟩
theorem e_RX3_80 : am_eV RX3 80 KX2_parts := ⟨am_c16 (i := 26) rfl rfl, am_c14 (i := 11) rfl rfl, am_c14 (i := 12) rfl rfl⟩
theorem e_RX3_86 : am_eV RX3 86 KX2_sign := ⟨am_c16 (i := 27) rfl rfl, am_c15 (i := 14) rfl rfl, am_c15 (i := 15) rfl rfl⟩
theorem e_RX3_90 : am_eS RX3 90 KX3_hasBit := ⟨am_c16 (i := 28) rfl rfl, am_c16 (i := 29) rfl rfl⟩
theorem e_RX3_94 : am_eN RX3 94 KX5_put := ⟨⟨"SeenWorlds", List.mem_filter.mpr ⟨List.mem_of_getElem? (i := 549) (by decide +kernel), rfl⟩⟩, am_c8 (i := 22) rfl rfl⟩
theorem e_RX3_98 : am_eV RX3 98 KX3_bitsBefore := ⟨am_c17 (i := 6) rfl rfl, am_c17 (i := 8) rfl rfl, am_c0 (i := 15) rfl rfl⟩
theorem e_RX3_101 : am_eV RX3 101 KX2_place := ⟨am_c17 (i := 10) rfl rfl, am_c17 (i := 11) rfl rfl, am_c17 (i := 12) rfl rfl⟩
theorem e_RX3_104 : am_eN RX3 104 KX5_at := ⟨⟨"SeenWorlds", List.mem_filter.mpr ⟨List.mem_of_getElem? (i := 562) (by decide +kernel), rfl⟩⟩, am_c9 (i := 8) rfl rfl⟩
theorem e_RX3_108 : am_eV RX3 108 KX2_first := ⟨am_c17 (i := 19) rfl rfl, am_c15 (i := 18) rfl rfl, am_c15 (i := 19) rfl rfl⟩
theorem e_RX3_111 : am_eV RX3 111 KX2_second := ⟨am_c17 (i := 20) rfl rfl, am_c15 (i := 23) rfl rfl, am_c15 (i := 24) rfl rfl⟩
theorem e_RX3_114 : am_eN RX3 114 KX5_joined := ⟨⟨"SeenWorlds", List.mem_filter.mpr ⟨List.mem_of_getElem? (i := 565) (by decide +kernel), rfl⟩⟩, am_c15 (i := 28) rfl rfl⟩
theorem e_RX3_118 : am_eN RX3 118 KX5_bit := ⟨⟨"SeenWorlds", List.mem_filter.mpr ⟨List.mem_of_getElem? (i := 566) (by decide +kernel), rfl⟩⟩, am_c9 (i := 19) rfl rfl⟩
theorem e_RX3_122 : am_eS RX3 122 KX3_bearing := ⟨am_c17 (i := 23) rfl rfl, am_c17 (i := 24) rfl rfl⟩
theorem e_RX3_125 : am_eN RX3 125 KX5_within := ⟨⟨"SeenWorlds", List.mem_filter.mpr ⟨List.mem_of_getElem? (i := 582) (by decide +kernel), rfl⟩⟩, am_c11 (i := 2) rfl rfl⟩
theorem e_RX3_128 : am_eV RX3 128 KX3_maySee := ⟨am_c18 (i := 2) rfl rfl, am_c18 (i := 4) rfl rfl, am_c0 (i := 19) rfl rfl⟩
theorem e_RX3_131 : am_eV RX3 131 KX3_isFit := ⟨am_c17 (i := 30) rfl rfl, am_c18 (i := 0) rfl rfl, am_c0 (i := 18) rfl rfl⟩
theorem e_RX3_134 : am_eV RX3 134 KX3_stay := ⟨am_c18 (i := 7) rfl rfl, am_c18 (i := 9) rfl rfl, am_c0 (i := 20) rfl rfl⟩
theorem e_RX3_138 : am_eV RX3 138 KX3_mustFall := ⟨am_c18 (i := 15) rfl rfl, am_c18 (i := 17) rfl rfl, am_c0 (i := 22) rfl rfl⟩
theorem e_RX3_141 : am_eV RX3 141 KX3_placeWhere := ⟨am_c18 (i := 23) rfl rfl, am_c18 (i := 25) rfl rfl, am_c0 (i := 23) rfl rfl⟩
theorem e_RX3_144 : am_eN RX3 144 KX5_whether := ⟨⟨"SeenWorlds", List.mem_filter.mpr ⟨List.mem_of_getElem? (i := 603) (by decide +kernel), rfl⟩⟩, am_c13 (i := 4) rfl rfl⟩
theorem e_RX3_148 : am_eV RX3 148 KX3_howManyReached := ⟨am_c18 (i := 28) rfl rfl, am_c18 (i := 30) rfl rfl, am_c0 (i := 24) rfl rfl⟩
theorem e_RX3_151 : am_eV RX3 151 KX3_howManyFit := ⟨am_c19 (i := 4) rfl rfl, am_c19 (i := 6) rfl rfl, am_c0 (i := 26) rfl rfl⟩
theorem e_RX3_154 : am_eV RX3 154 KX3_swapStays := ⟨am_c19 (i := 0) rfl rfl, am_c19 (i := 2) rfl rfl, am_c0 (i := 25) rfl rfl⟩
theorem e_RX4_28 : am_eV RX4 28 KX0_size := ⟨am_c15 (i := 5) rfl rfl, am_c8 (i := 14) rfl rfl, am_c8 (i := 15) rfl rfl⟩
theorem e_RX4_33 : am_eV RX4 33 KX0_seenBy := ⟨am_c15 (i := 6) rfl rfl, am_c9 (i := 4) rfl rfl, am_c9 (i := 5) rfl rfl⟩
theorem e_RX4_37 : am_eN RX4 37 KX5_put := ⟨⟨"SeenWorlds", List.mem_filter.mpr ⟨List.mem_of_getElem? (i := 487) (by decide +kernel), rfl⟩⟩, am_c8 (i := 22) rfl rfl⟩
theorem e_RX4_41 : am_eV RX4 41 KX2_parts := ⟨am_c15 (i := 12) rfl rfl, am_c14 (i := 11) rfl rfl, am_c14 (i := 12) rfl rfl⟩
theorem e_RX4_46 : am_eV RX4 46 KX2_sign := ⟨am_c15 (i := 13) rfl rfl, am_c15 (i := 14) rfl rfl, am_c15 (i := 15) rfl rfl⟩
theorem e_RX4_50 : am_eV RX4 50 KX2_first := ⟨am_c15 (i := 17) rfl rfl, am_c15 (i := 18) rfl rfl, am_c15 (i := 19) rfl rfl⟩
theorem e_RX4_53 : am_eN RX4 53 KX5_at := ⟨⟨"SeenWorlds", List.mem_filter.mpr ⟨List.mem_of_getElem? (i := 501) (by decide +kernel), rfl⟩⟩, am_c9 (i := 8) rfl rfl⟩
theorem e_RX4_57 : am_eV RX4 57 KX2_second := ⟨am_c15 (i := 22) rfl rfl, am_c15 (i := 23) rfl rfl, am_c15 (i := 24) rfl rfl⟩
theorem e_RX4_60 : am_eN RX4 60 KX5_isAtom := ⟨⟨"SeenWorlds", List.mem_filter.mpr ⟨List.mem_of_getElem? (i := 506) (by decide +kernel), rfl⟩⟩, am_c12 (i := 24) rfl rfl⟩
theorem e_RX4_64 : am_eN RX4 64 KX5_joined := ⟨⟨"SeenWorlds", List.mem_filter.mpr ⟨List.mem_of_getElem? (i := 507) (by decide +kernel), rfl⟩⟩, am_c15 (i := 28) rfl rfl⟩
theorem e_RX4_68 : am_eV RX4 68 KX4_must := ⟨am_c15 (i := 30) rfl rfl, am_c16 (i := 0) rfl rfl, am_c0 (i := 12) rfl rfl⟩
theorem e_RX4_71 : am_eN RX4 71 KX5_within := ⟨⟨"SeenWorlds", List.mem_filter.mpr ⟨List.mem_of_getElem? (i := 514) (by decide +kernel), rfl⟩⟩, am_c11 (i := 2) rfl rfl⟩
theorem e_RX4_75 : am_eV RX4 75 KX4_heapByAtoms := ⟨am_c20 (i := 10) rfl rfl, am_c20 (i := 12) rfl rfl, am_c0 (i := 27) rfl rfl⟩
theorem e_RX4_79 : am_eV RX4 79 KX4_heapFiner := ⟨am_c20 (i := 19) rfl rfl, am_c20 (i := 21) rfl rfl, am_c0 (i := 28) rfl rfl⟩
theorem e_RX4_82 : am_eS RX4 82 KX4_sameAtoms := ⟨am_c20 (i := 14) rfl rfl, am_c20 (i := 15) rfl rfl⟩
theorem e_RX4_86 : am_eV RX4 86 KX0_atoms := ⟨am_c20 (i := 17) rfl rfl, am_c10 (i := 11) rfl rfl, am_c10 (i := 12) rfl rfl⟩
theorem e_RX4_90 : am_eN RX4 90 KX5_bit := ⟨⟨"SeenWorlds", List.mem_filter.mpr ⟨List.mem_of_getElem? (i := 658) (by decide +kernel), rfl⟩⟩, am_c9 (i := 19) rfl rfl⟩
theorem e_RX4_93 : am_eV RX4 93 KX4_sameHeaps := ⟨am_c20 (i := 23) rfl rfl, am_c20 (i := 25) rfl rfl, am_c0 (i := 29) rfl rfl⟩
theorem e_RX4_96 : am_eV RX4 96 KX4_heapsSeen := ⟨am_c20 (i := 27) rfl rfl, am_c20 (i := 29) rfl rfl, am_c0 (i := 30) rfl rfl⟩
theorem e_RX6_135 : am_eS RX6 135 KX6_in := ⟨am_c28 (i := 13) rfl rfl, am_c28 (i := 14) rfl rfl⟩
theorem e_RX6_139 : am_eV RX6 139 KX6_isWorld := ⟨am_c28 (i := 20) rfl rfl, am_c28 (i := 22) rfl rfl, am_c1 (i := 1) rfl rfl⟩
theorem e_RX6_143 : am_eV RX6 143 KX6_all := ⟨am_c28 (i := 28) rfl rfl, am_c28 (i := 30) rfl rfl, am_c1 (i := 2) rfl rfl⟩
theorem e_RX6_147 : am_eV RX6 147 KX6_farOf := ⟨am_c29 (i := 14) rfl rfl, am_c29 (i := 16) rfl rfl, am_c1 (i := 4) rfl rfl⟩
theorem e_RX6_151 : am_eS RX6 151 KX6_isSort := ⟨am_c29 (i := 4) rfl rfl, am_c29 (i := 5) rfl rfl⟩
theorem e_RX6_164 : am_eV RX6 164 KX6_seenOf := ⟨am_c29 (i := 10) rfl rfl, am_c29 (i := 12) rfl rfl, am_c1 (i := 3) rfl rfl⟩
theorem e_RX6_168 : am_eS RX6 168 KX6_ones := ⟨am_c29 (i := 22) rfl rfl, am_c29 (i := 23) rfl rfl⟩
theorem e_RX6_182 : am_eS RX6 182 KX6_isPrefix := ⟨am_c30 (i := 13) rfl rfl, am_c30 (i := 14) rfl rfl⟩
theorem e_RX6_185 : am_eS RX6 185 KX6_isAtom := ⟨am_c30 (i := 16) rfl rfl, am_c30 (i := 17) rfl rfl⟩
theorem e_RX6_188 : am_eV RX6 188 KX6_part := ⟨am_c30 (i := 19) rfl rfl, am_c30 (i := 21) rfl rfl, am_c1 (i := 6) rfl rfl⟩
theorem e_RX6_192 : am_eS RX6 192 KX6_isJoin := ⟨am_c30 (i := 23) rfl rfl, am_c30 (i := 24) rfl rfl⟩
theorem e_RX6_195 : am_eS RX6 195 KX6_isSentence := ⟨am_c30 (i := 6) rfl rfl, am_c30 (i := 7) rfl rfl⟩
theorem e_RX6_198 : am_eV RX6 198 KX6_reads := ⟨am_c30 (i := 9) rfl rfl, am_c30 (i := 11) rfl rfl, am_c1 (i := 5) rfl rfl⟩
theorem e_RX6_208 : am_eV RX6 208 KX6_takes := ⟨am_c31 (i := 2) rfl rfl, am_c31 (i := 4) rfl rfl, am_c1 (i := 8) rfl rfl⟩
theorem e_RX6_212 : am_eV RX6 212 KX6_isModal := ⟨am_c31 (i := 14) rfl rfl, am_c31 (i := 16) rfl rfl, am_c1 (i := 11) rfl rfl⟩
theorem e_RX6_215 : am_eV RX6 215 KX6_works := ⟨am_c30 (i := 30) rfl rfl, am_c31 (i := 0) rfl rfl, am_c1 (i := 7) rfl rfl⟩
theorem e_RX6_218 : am_eV RX6 218 KX6_atomsOf := ⟨am_c31 (i := 6) rfl rfl, am_c31 (i := 8) rfl rfl, am_c1 (i := 9) rfl rfl⟩
theorem e_RX6_221 : am_eV RX6 221 KX6_isPlain := ⟨am_c31 (i := 10) rfl rfl, am_c31 (i := 12) rfl rfl, am_c1 (i := 10) rfl rfl⟩
theorem e_RX6_224 : am_eV RX6 224 KX6_isTwo := ⟨am_c31 (i := 18) rfl rfl, am_c31 (i := 20) rfl rfl, am_c1 (i := 12) rfl rfl⟩
theorem e_RX6_227 : am_eV RX6 227 KX6_isLike := ⟨am_c31 (i := 22) rfl rfl, am_c31 (i := 24) rfl rfl, am_c1 (i := 13) rfl rfl⟩
theorem e_RX6_231 : am_eV RX6 231 KX6_allIn := ⟨am_c32 (i := 6) rfl rfl, am_c32 (i := 8) rfl rfl, am_c1 (i := 16) rfl rfl⟩
theorem e_RX6_234 : am_eV RX6 234 KX6_looks := ⟨am_c31 (i := 30) rfl rfl, am_c32 (i := 0) rfl rfl, am_c1 (i := 14) rfl rfl⟩
theorem e_RX6_237 : am_eV RX6 237 KX6_holding := ⟨am_c32 (i := 2) rfl rfl, am_c32 (i := 4) rfl rfl, am_c1 (i := 15) rfl rfl⟩
theorem e_RX6_249 : am_eV RX6 249 KX6_judges := ⟨am_c32 (i := 29) rfl rfl, am_c32 (i := 31) rfl rfl, am_c1 (i := 19) rfl rfl⟩
theorem e_RX6_252 : am_eV RX6 252 KX6_lets := ⟨am_c33 (i := 9) rfl rfl, am_c33 (i := 11) rfl rfl, am_c1 (i := 22) rfl rfl⟩
theorem e_RX6_256 : am_eV RX6 256 KX6_isThere := ⟨am_c33 (i := 13) rfl rfl, am_c33 (i := 15) rfl rfl, am_c1 (i := 23) rfl rfl⟩
theorem e_RX6_259 : am_eV RX6 259 KX6_maySee := ⟨am_c33 (i := 5) rfl rfl, am_c33 (i := 7) rfl rfl, am_c1 (i := 21) rfl rfl⟩
theorem e_RX6_262 : am_eV RX6 262 KX6_isFalling := ⟨am_c33 (i := 17) rfl rfl, am_c33 (i := 19) rfl rfl, am_c1 (i := 24) rfl rfl⟩
theorem e_RX6_265 : am_eS RX6 265 KX6_isLogic := ⟨am_c32 (i := 18) rfl rfl, am_c32 (i := 19) rfl rfl⟩
theorem e_RX6_268 : am_eV RX6 268 KX6_tells := ⟨am_c32 (i := 21) rfl rfl, am_c32 (i := 23) rfl rfl, am_c1 (i := 17) rfl rfl⟩
theorem e_RX6_272 : am_eV RX6 272 KX6_types := ⟨am_c32 (i := 25) rfl rfl, am_c32 (i := 27) rfl rfl, am_c1 (i := 18) rfl rfl⟩
theorem e_RX6_275 : am_eV RX6 275 KX6_rounds := ⟨am_c33 (i := 1) rfl rfl, am_c33 (i := 3) rfl rfl, am_c1 (i := 20) rfl rfl⟩
theorem e_RX6_278 : am_eV RX6 278 KX6_isLaw := ⟨am_c33 (i := 21) rfl rfl, am_c33 (i := 23) rfl rfl, am_c1 (i := 25) rfl rfl⟩
theorem e_RX6_281 : am_eV RX6 281 KX6_shownFrom := ⟨am_c33 (i := 25) rfl rfl, am_c33 (i := 27) rfl rfl, am_c1 (i := 26) rfl rfl⟩
theorem e_RX6_284 : am_eV RX6 284 KX6_isAlike := ⟨am_c34 (i := 13) rfl rfl, am_c34 (i := 15) rfl rfl, am_c1 (i := 28) rfl rfl⟩
theorem e_RX6_287 : am_eV RX6 287 KX6_heapsOf := ⟨am_c34 (i := 17) rfl rfl, am_c34 (i := 19) rfl rfl, am_c1 (i := 29) rfl rfl⟩
theorem e_RX6_290 : am_eV RX6 290 KX6_splits := ⟨am_c34 (i := 9) rfl rfl, am_c34 (i := 11) rfl rfl, am_c1 (i := 27) rfl rfl⟩
theorem e_RX6_293 : am_eV RX6 293 KX6_isGrowing := ⟨am_c35 (i := 1) rfl rfl, am_c35 (i := 3) rfl rfl, am_c1 (i := 30) rfl rfl⟩
theorem e_RX6_296 : am_eV RX6 296 KX6_isFit := ⟨am_c35 (i := 17) rfl rfl, am_c35 (i := 19) rfl rfl, am_c2 (i := 0) rfl rfl⟩
theorem e_RX6_299 : am_eV RX6 299 KX6_breaks := ⟨am_c35 (i := 21) rfl rfl, am_c35 (i := 23) rfl rfl, am_c2 (i := 1) rfl rfl⟩
theorem e_RX6_302 : am_eV RX6 302 KX6_isShown := ⟨am_c35 (i := 13) rfl rfl, am_c35 (i := 15) rfl rfl, am_c1 (i := 31) rfl rfl⟩
theorem e_RX6_305 : am_eV RX6 305 KX6_isTrue := ⟨am_c35 (i := 25) rfl rfl, am_c35 (i := 27) rfl rfl, am_c2 (i := 2) rfl rfl⟩
theorem e_RX6_308 : am_eV RX6 308 KX6_held := ⟨am_c36 (i := 1) rfl rfl, am_c36 (i := 3) rfl rfl, am_c2 (i := 3) rfl rfl⟩
theorem e_RX6_311 : am_eS RX6 311 KX6_packed := ⟨am_c36 (i := 5) rfl rfl, am_c36 (i := 6) rfl rfl⟩
