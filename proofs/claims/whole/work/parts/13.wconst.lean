theorem kbm99 : (Int8.ofInt (-99)).toInt32 = (-99) := by decide
theorem kb6 : (Int8.ofInt 6).toInt32 = 6 := by decide
theorem kb7 : (Int8.ofInt 7).toInt32 = 7 := by decide
theorem kb8 : (Int8.ofInt 8).toInt32 = 8 := by decide
theorem kb9 : (Int8.ofInt 9).toInt32 = 9 := by decide
theorem kb10 : (Int8.ofInt 10).toInt32 = 10 := by decide
theorem kb11 : (Int8.ofInt 11).toInt32 = 11 := by decide
theorem kb12 : (Int8.ofInt 12).toInt32 = 12 := by decide
theorem kb13 : (Int8.ofInt 13).toInt32 = 13 := by decide
theorem kb15 : (Int8.ofInt 15).toInt32 = 15 := by decide
theorem kb16 : (Int8.ofInt 16).toInt32 = 16 := by decide
theorem kb17 : (Int8.ofInt 17).toInt32 = 17 := by decide
theorem kb18 : (Int8.ofInt 18).toInt32 = 18 := by decide
theorem kb19 : (Int8.ofInt 19).toInt32 = 19 := by decide
theorem kb20 : (Int8.ofInt 20).toInt32 = 20 := by decide
theorem kb21 : (Int8.ofInt 21).toInt32 = 21 := by decide
theorem kb22 : (Int8.ofInt 22).toInt32 = 22 := by decide
theorem kb23 : (Int8.ofInt 23).toInt32 = 23 := by decide
theorem kb24 : (Int8.ofInt 24).toInt32 = 24 := by decide
theorem kb30 : (Int8.ofInt 30).toInt32 = 30 := by decide
theorem kb32 : (Int8.ofInt 32).toInt32 = 32 := by decide
theorem kb36 : (Int8.ofInt 36).toInt32 = 36 := by decide
theorem kb48 : (Int8.ofInt 48).toInt32 = 48 := by decide
theorem kb52 : (Int8.ofInt 52).toInt32 = 52 := by decide
theorem kb57 : (Int8.ofInt 57).toInt32 = 57 := by decide
theorem kb58 : (Int8.ofInt 58).toInt32 = 58 := by decide
theorem kb59 : (Int8.ofInt 59).toInt32 = 59 := by decide
theorem kb60 : (Int8.ofInt 60).toInt32 = 60 := by decide
theorem kb61 : (Int8.ofInt 61).toInt32 = 61 := by decide
theorem kb62 : (Int8.ofInt 62).toInt32 = 62 := by decide
theorem kb63 : (Int8.ofInt 63).toInt32 = 63 := by decide
theorem kb72 : (Int8.ofInt 72).toInt32 = 72 := by decide
theorem kb96 : (Int8.ofInt 96).toInt32 = 96 := by decide
theorem kb97 : (Int8.ofInt 97).toInt32 = 97 := by decide
theorem kb99 : (Int8.ofInt 99).toInt32 = 99 := by decide
theorem kb100 : (Int8.ofInt 100).toInt32 = 100 := by decide
theorem kb101 : (Int8.ofInt 101).toInt32 = 101 := by decide
theorem kb102 : (Int8.ofInt 102).toInt32 = 102 := by decide
theorem kb103 : (Int8.ofInt 103).toInt32 = 103 := by decide
theorem kb104 : (Int8.ofInt 104).toInt32 = 104 := by decide
theorem kb105 : (Int8.ofInt 105).toInt32 = 105 := by decide
theorem kb106 : (Int8.ofInt 106).toInt32 = 106 := by decide
theorem kb107 : (Int8.ofInt 107).toInt32 = 107 := by decide
theorem kb108 : (Int8.ofInt 108).toInt32 = 108 := by decide
theorem kb109 : (Int8.ofInt 109).toInt32 = 109 := by decide
theorem kb110 : (Int8.ofInt 110).toInt32 = 110 := by decide
theorem kb111 : (Int8.ofInt 111).toInt32 = 111 := by decide
theorem kb112 : (Int8.ofInt 112).toInt32 = 112 := by decide
theorem kb114 : (Int8.ofInt 114).toInt32 = 114 := by decide
theorem kb115 : (Int8.ofInt 115).toInt32 = 115 := by decide
theorem kb116 : (Int8.ofInt 116).toInt32 = 116 := by decide
theorem kb117 : (Int8.ofInt 117).toInt32 = 117 := by decide
theorem kb118 : (Int8.ofInt 118).toInt32 = 118 := by decide
theorem kb119 : (Int8.ofInt 119).toInt32 = 119 := by decide
theorem kb120 : (Int8.ofInt 120).toInt32 = 120 := by decide
theorem kb121 : (Int8.ofInt 121).toInt32 = 121 := by decide
theorem kb122 : (Int8.ofInt 122).toInt32 = 122 := by decide
theorem kcm1 : Int32.ofInt (-1) = (-1) := by decide
theorem kc0 : Int32.ofInt 0 = 0 := by decide
theorem kc1 : Int32.ofInt 1 = 1 := by decide
theorem kc2 : Int32.ofInt 2 = 2 := by decide
theorem kc3 : Int32.ofInt 3 = 3 := by decide
theorem kc4 : Int32.ofInt 4 = 4 := by decide
theorem kc5 : Int32.ofInt 5 = 5 := by decide
theorem ks130 : (Int16.ofInt 130).toInt32 = 130 := by decide
theorem ks142 : (Int16.ofInt 142).toInt32 = 142 := by decide
theorem ks143 : (Int16.ofInt 143).toInt32 = 143 := by decide
theorem ks144 : (Int16.ofInt 144).toInt32 = 144 := by decide
theorem ks200 : (Int16.ofInt 200).toInt32 = 200 := by decide
theorem ks255 : (Int16.ofInt 255).toInt32 = 255 := by decide
theorem ks300 : (Int16.ofInt 300).toInt32 = 300 := by decide
theorem ks421 : (Int16.ofInt 421).toInt32 = 421 := by decide
theorem ks900 : (Int16.ofInt 900).toInt32 = 900 := by decide
theorem ks1684 : (Int16.ofInt 1684).toInt32 = 1684 := by decide
theorem ks1685 : (Int16.ofInt 1685).toInt32 = 1685 := by decide
theorem ks1686 : (Int16.ofInt 1686).toInt32 = 1686 := by decide
theorem ks1687 : (Int16.ofInt 1687).toInt32 = 1687 := by decide
theorem ks1688 : (Int16.ofInt 1688).toInt32 = 1688 := by decide
theorem ks1691 : (Int16.ofInt 1691).toInt32 = 1691 := by decide
theorem ks1692 : (Int16.ofInt 1692).toInt32 = 1692 := by decide
theorem ks1704 : (Int16.ofInt 1704).toInt32 = 1704 := by decide
theorem ks1720 : (Int16.ofInt 1720).toInt32 = 1720 := by decide
theorem ks1736 : (Int16.ofInt 1736).toInt32 = 1736 := by decide
theorem ks1742 : (Int16.ofInt 1742).toInt32 = 1742 := by decide
theorem ks1814 : (Int16.ofInt 1814).toInt32 = 1814 := by decide
theorem ks1828 : (Int16.ofInt 1828).toInt32 = 1828 := by decide
theorem ks2971 : (Int16.ofInt 2971).toInt32 = 2971 := by decide
theorem ks4095 : (Int16.ofInt 4095).toInt32 = 4095 := by decide
theorem ks9999 : (Int16.ofInt 9999).toInt32 = 9999 := by decide
theorem ks10000 : (Int16.ofInt 10000).toInt32 = 10000 := by decide
theorem ks10663 : (Int16.ofInt 10663).toInt32 = 10663 := by decide
theorem dd_X0_forget : yX0_forget.cls ≠ "java/lang/invoke/MethodHandle" ∧ yX0_forget.cls ≠ "java/lang/invoke/VarHandle" ∧ (parseMethodDescriptor yX0_forget.desc).map (fun d => d.parameters.length) = some 0 := by decide +kernel
theorem dd_X0_turnTo : yX0_turnTo.cls ≠ "java/lang/invoke/MethodHandle" ∧ yX0_turnTo.cls ≠ "java/lang/invoke/VarHandle" ∧ (parseMethodDescriptor yX0_turnTo.desc).map (fun d => d.parameters.length) = some 1 := by decide +kernel
theorem dd_X6_build : yX6_build.cls ≠ "java/lang/invoke/MethodHandle" ∧ yX6_build.cls ≠ "java/lang/invoke/VarHandle" ∧ (parseMethodDescriptor yX6_build.desc).map (fun d => d.parameters.length) = some 1 := by decide +kernel
theorem dd_X6_without : yX6_without.cls ≠ "java/lang/invoke/MethodHandle" ∧ yX6_without.cls ≠ "java/lang/invoke/VarHandle" ∧ (parseMethodDescriptor yX6_without.desc).map (fun d => d.parameters.length) = some 1 := by decide +kernel
theorem dd_X0_openNow : yX0_openNow.cls ≠ "java/lang/invoke/MethodHandle" ∧ yX0_openNow.cls ≠ "java/lang/invoke/VarHandle" ∧ (parseMethodDescriptor yX0_openNow.desc).map (fun d => d.parameters.length) = some 0 := by decide +kernel
theorem dd_J7_fill_53178 : yJ7_fill_53178.cls ≠ "java/lang/invoke/MethodHandle" ∧ yJ7_fill_53178.cls ≠ "java/lang/invoke/VarHandle" ∧ (parseMethodDescriptor yJ7_fill_53178.desc).map (fun d => d.parameters.length) = some 2 := by decide +kernel
theorem dd_X0_hatredOf : yX0_hatredOf.cls ≠ "java/lang/invoke/MethodHandle" ∧ yX0_hatredOf.cls ≠ "java/lang/invoke/VarHandle" ∧ (parseMethodDescriptor yX0_hatredOf.desc).map (fun d => d.parameters.length) = some 1 := by decide +kernel
theorem dd_X0_most : yX0_most.cls ≠ "java/lang/invoke/MethodHandle" ∧ yX0_most.cls ≠ "java/lang/invoke/VarHandle" ∧ (parseMethodDescriptor yX0_most.desc).map (fun d => d.parameters.length) = some 1 := by decide +kernel
theorem dd_X0_castOne : yX0_castOne.cls ≠ "java/lang/invoke/MethodHandle" ∧ yX0_castOne.cls ≠ "java/lang/invoke/VarHandle" ∧ (parseMethodDescriptor yX0_castOne.desc).map (fun d => d.parameters.length) = some 2 := by decide +kernel
theorem dd_X0_lastOfFewest : yX0_lastOfFewest.cls ≠ "java/lang/invoke/MethodHandle" ∧ yX0_lastOfFewest.cls ≠ "java/lang/invoke/VarHandle" ∧ (parseMethodDescriptor yX0_lastOfFewest.desc).map (fun d => d.parameters.length) = some 1 := by decide +kernel
theorem dd_X0_count : yX0_count.cls ≠ "java/lang/invoke/MethodHandle" ∧ yX0_count.cls ≠ "java/lang/invoke/VarHandle" ∧ (parseMethodDescriptor yX0_count.desc).map (fun d => d.parameters.length) = some 2 := by decide +kernel
theorem dd_X0_goneNextYear : yX0_goneNextYear.cls ≠ "java/lang/invoke/MethodHandle" ∧ yX0_goneNextYear.cls ≠ "java/lang/invoke/VarHandle" ∧ (parseMethodDescriptor yX0_goneNextYear.desc).map (fun d => d.parameters.length) = some 2 := by decide +kernel
theorem dd_X0_swayedBy : yX0_swayedBy.cls ≠ "java/lang/invoke/MethodHandle" ∧ yX0_swayedBy.cls ≠ "java/lang/invoke/VarHandle" ∧ (parseMethodDescriptor yX0_swayedBy.desc).map (fun d => d.parameters.length) = some 1 := by decide +kernel
theorem dd_J7_fill_d0a16 : yJ7_fill_d0a16.cls ≠ "java/lang/invoke/MethodHandle" ∧ yJ7_fill_d0a16.cls ≠ "java/lang/invoke/VarHandle" ∧ (parseMethodDescriptor yJ7_fill_d0a16.desc).map (fun d => d.parameters.length) = some 2 := by decide +kernel
theorem dd_X7_clear : yX7_clear.cls ≠ "java/lang/invoke/MethodHandle" ∧ yX7_clear.cls ≠ "java/lang/invoke/VarHandle" ∧ (parseMethodDescriptor yX7_clear.desc).map (fun d => d.parameters.length) = some 0 := by decide +kernel
theorem dd_X1_clear : yX1_clear.cls ≠ "java/lang/invoke/MethodHandle" ∧ yX1_clear.cls ≠ "java/lang/invoke/VarHandle" ∧ (parseMethodDescriptor yX1_clear.desc).map (fun d => d.parameters.length) = some 0 := by decide +kernel
theorem dd_X7_copyFrom : yX7_copyFrom.cls ≠ "java/lang/invoke/MethodHandle" ∧ yX7_copyFrom.cls ≠ "java/lang/invoke/VarHandle" ∧ (parseMethodDescriptor yX7_copyFrom.desc).map (fun d => d.parameters.length) = some 1 := by decide +kernel
theorem dd_X1_copyFrom : yX1_copyFrom.cls ≠ "java/lang/invoke/MethodHandle" ∧ yX1_copyFrom.cls ≠ "java/lang/invoke/VarHandle" ∧ (parseMethodDescriptor yX1_copyFrom.desc).map (fun d => d.parameters.length) = some 1 := by decide +kernel
theorem dd_X1_isTaken : yX1_isTaken.cls ≠ "java/lang/invoke/MethodHandle" ∧ yX1_isTaken.cls ≠ "java/lang/invoke/VarHandle" ∧ (parseMethodDescriptor yX1_isTaken.desc).map (fun d => d.parameters.length) = some 1 := by decide +kernel
theorem dd_X1_find : yX1_find.cls ≠ "java/lang/invoke/MethodHandle" ∧ yX1_find.cls ≠ "java/lang/invoke/VarHandle" ∧ (parseMethodDescriptor yX1_find.desc).map (fun d => d.parameters.length) = some 2 := by decide +kernel
theorem dd_X1_worthOf : yX1_worthOf.cls ≠ "java/lang/invoke/MethodHandle" ∧ yX1_worthOf.cls ≠ "java/lang/invoke/VarHandle" ∧ (parseMethodDescriptor yX1_worthOf.desc).map (fun d => d.parameters.length) = some 1 := by decide +kernel
theorem dd_X1_makingsOf : yX1_makingsOf.cls ≠ "java/lang/invoke/MethodHandle" ∧ yX1_makingsOf.cls ≠ "java/lang/invoke/VarHandle" ∧ (parseMethodDescriptor yX1_makingsOf.desc).map (fun d => d.parameters.length) = some 1 := by decide +kernel
theorem dd_X9_readWord : yX9_readWord.cls ≠ "java/lang/invoke/MethodHandle" ∧ yX9_readWord.cls ≠ "java/lang/invoke/VarHandle" ∧ (parseMethodDescriptor yX9_readWord.desc).map (fun d => d.parameters.length) = some 0 := by decide +kernel
theorem dd_X9_readNumber : yX9_readNumber.cls ≠ "java/lang/invoke/MethodHandle" ∧ yX9_readNumber.cls ≠ "java/lang/invoke/VarHandle" ∧ (parseMethodDescriptor yX9_readNumber.desc).map (fun d => d.parameters.length) = some 0 := by decide +kernel
theorem dd_X9_readSign : yX9_readSign.cls ≠ "java/lang/invoke/MethodHandle" ∧ yX9_readSign.cls ≠ "java/lang/invoke/VarHandle" ∧ (parseMethodDescriptor yX9_readSign.desc).map (fun d => d.parameters.length) = some 0 := by decide +kernel
theorem dd_X9_advance : yX9_advance.cls ≠ "java/lang/invoke/MethodHandle" ∧ yX9_advance.cls ≠ "java/lang/invoke/VarHandle" ∧ (parseMethodDescriptor yX9_advance.desc).map (fun d => d.parameters.length) = some 0 := by decide +kernel
theorem dd_X9_start : yX9_start.cls ≠ "java/lang/invoke/MethodHandle" ∧ yX9_start.cls ≠ "java/lang/invoke/VarHandle" ∧ (parseMethodDescriptor yX9_start.desc).map (fun d => d.parameters.length) = some 1 := by decide +kernel
theorem dd_X9_fail : yX9_fail.cls ≠ "java/lang/invoke/MethodHandle" ∧ yX9_fail.cls ≠ "java/lang/invoke/VarHandle" ∧ (parseMethodDescriptor yX9_fail.desc).map (fun d => d.parameters.length) = some 1 := by decide +kernel
theorem dd_X2_begin : yX2_begin.cls ≠ "java/lang/invoke/MethodHandle" ∧ yX2_begin.cls ≠ "java/lang/invoke/VarHandle" ∧ (parseMethodDescriptor yX2_begin.desc).map (fun d => d.parameters.length) = some 2 := by decide +kernel
theorem dd_X2_readNewName : yX2_readNewName.cls ≠ "java/lang/invoke/MethodHandle" ∧ yX2_readNewName.cls ≠ "java/lang/invoke/VarHandle" ∧ (parseMethodDescriptor yX2_readNewName.desc).map (fun d => d.parameters.length) = some 1 := by decide +kernel
theorem dd_X9_isKeyword : yX9_isKeyword.cls ≠ "java/lang/invoke/MethodHandle" ∧ yX9_isKeyword.cls ≠ "java/lang/invoke/VarHandle" ∧ (parseMethodDescriptor yX9_isKeyword.desc).map (fun d => d.parameters.length) = some 1 := by decide +kernel
theorem dd_X9_passNumber : yX9_passNumber.cls ≠ "java/lang/invoke/MethodHandle" ∧ yX9_passNumber.cls ≠ "java/lang/invoke/VarHandle" ∧ (parseMethodDescriptor yX9_passNumber.desc).map (fun d => d.parameters.length) = some 2 := by decide +kernel
theorem dd_X2_readThing : yX2_readThing.cls ≠ "java/lang/invoke/MethodHandle" ∧ yX2_readThing.cls ≠ "java/lang/invoke/VarHandle" ∧ (parseMethodDescriptor yX2_readThing.desc).map (fun d => d.parameters.length) = some 0 := by decide +kernel
theorem dd_X9_seeKnown : yX9_seeKnown.cls ≠ "java/lang/invoke/MethodHandle" ∧ yX9_seeKnown.cls ≠ "java/lang/invoke/VarHandle" ∧ (parseMethodDescriptor yX9_seeKnown.desc).map (fun d => d.parameters.length) = some 2 := by decide +kernel
theorem dd_X9_passKnown : yX9_passKnown.cls ≠ "java/lang/invoke/MethodHandle" ∧ yX9_passKnown.cls ≠ "java/lang/invoke/VarHandle" ∧ (parseMethodDescriptor yX9_passKnown.desc).map (fun d => d.parameters.length) = some 2 := by decide +kernel
theorem dd_X9_passKeyword : yX9_passKeyword.cls ≠ "java/lang/invoke/MethodHandle" ∧ yX9_passKeyword.cls ≠ "java/lang/invoke/VarHandle" ∧ (parseMethodDescriptor yX9_passKeyword.desc).map (fun d => d.parameters.length) = some 1 := by decide +kernel
theorem dd_X9_isSign : yX9_isSign.cls ≠ "java/lang/invoke/MethodHandle" ∧ yX9_isSign.cls ≠ "java/lang/invoke/VarHandle" ∧ (parseMethodDescriptor yX9_isSign.desc).map (fun d => d.parameters.length) = some 1 := by decide +kernel
theorem dd_X2_readThings : yX2_readThings.cls ≠ "java/lang/invoke/MethodHandle" ∧ yX2_readThings.cls ≠ "java/lang/invoke/VarHandle" ∧ (parseMethodDescriptor yX2_readThings.desc).map (fun d => d.parameters.length) = some 1 := by decide +kernel
theorem dd_X2_readMakes : yX2_readMakes.cls ≠ "java/lang/invoke/MethodHandle" ∧ yX2_readMakes.cls ≠ "java/lang/invoke/VarHandle" ∧ (parseMethodDescriptor yX2_readMakes.desc).map (fun d => d.parameters.length) = some 0 := by decide +kernel
theorem dd_X2_readWork : yX2_readWork.cls ≠ "java/lang/invoke/MethodHandle" ∧ yX2_readWork.cls ≠ "java/lang/invoke/VarHandle" ∧ (parseMethodDescriptor yX2_readWork.desc).map (fun d => d.parameters.length) = some 0 := by decide +kernel
theorem dd_X2_readVoter : yX2_readVoter.cls ≠ "java/lang/invoke/MethodHandle" ∧ yX2_readVoter.cls ≠ "java/lang/invoke/VarHandle" ∧ (parseMethodDescriptor yX2_readVoter.desc).map (fun d => d.parameters.length) = some 0 := by decide +kernel
theorem dd_X2_readHates : yX2_readHates.cls ≠ "java/lang/invoke/MethodHandle" ∧ yX2_readHates.cls ≠ "java/lang/invoke/VarHandle" ∧ (parseMethodDescriptor yX2_readHates.desc).map (fun d => d.parameters.length) = some 0 := by decide +kernel
theorem dd_X2_readAhead : yX2_readAhead.cls ≠ "java/lang/invoke/MethodHandle" ∧ yX2_readAhead.cls ≠ "java/lang/invoke/VarHandle" ∧ (parseMethodDescriptor yX2_readAhead.desc).map (fun d => d.parameters.length) = some 0 := by decide +kernel
theorem dd_X2_readLaw : yX2_readLaw.cls ≠ "java/lang/invoke/MethodHandle" ∧ yX2_readLaw.cls ≠ "java/lang/invoke/VarHandle" ∧ (parseMethodDescriptor yX2_readLaw.desc).map (fun d => d.parameters.length) = some 0 := by decide +kernel
theorem dd_X2_readPart : yX2_readPart.cls ≠ "java/lang/invoke/MethodHandle" ∧ yX2_readPart.cls ≠ "java/lang/invoke/VarHandle" ∧ (parseMethodDescriptor yX2_readPart.desc).map (fun d => d.parameters.length) = some 0 := by decide +kernel
theorem dd_X9_passSign : yX9_passSign.cls ≠ "java/lang/invoke/MethodHandle" ∧ yX9_passSign.cls ≠ "java/lang/invoke/VarHandle" ∧ (parseMethodDescriptor yX9_passSign.desc).map (fun d => d.parameters.length) = some 1 := by decide +kernel
theorem dd_X2_takes : yX2_takes.cls ≠ "java/lang/invoke/MethodHandle" ∧ yX2_takes.cls ≠ "java/lang/invoke/VarHandle" ∧ (parseMethodDescriptor yX2_takes.desc).map (fun d => d.parameters.length) = some 2 := by decide +kernel
theorem dd_X3_turnTo : yX3_turnTo.cls ≠ "java/lang/invoke/MethodHandle" ∧ yX3_turnTo.cls ≠ "java/lang/invoke/VarHandle" ∧ (parseMethodDescriptor yX3_turnTo.desc).map (fun d => d.parameters.length) = some 1 := by decide +kernel
theorem dd_X3_lineBehindEnd : yX3_lineBehindEnd.cls ≠ "java/lang/invoke/MethodHandle" ∧ yX3_lineBehindEnd.cls ≠ "java/lang/invoke/VarHandle" ∧ (parseMethodDescriptor yX3_lineBehindEnd.desc).map (fun d => d.parameters.length) = some 2 := by decide +kernel
theorem dd_X6_atPresent : yX6_atPresent.cls ≠ "java/lang/invoke/MethodHandle" ∧ yX6_atPresent.cls ≠ "java/lang/invoke/VarHandle" ∧ (parseMethodDescriptor yX6_atPresent.desc).map (fun d => d.parameters.length) = some 0 := by decide +kernel
theorem dd_X6_doable : yX6_doable.cls ≠ "java/lang/invoke/MethodHandle" ∧ yX6_doable.cls ≠ "java/lang/invoke/VarHandle" ∧ (parseMethodDescriptor yX6_doable.desc).map (fun d => d.parameters.length) = some 1 := by decide +kernel
theorem dd_X3_isSo : yX3_isSo.cls ≠ "java/lang/invoke/MethodHandle" ∧ yX3_isSo.cls ≠ "java/lang/invoke/VarHandle" ∧ (parseMethodDescriptor yX3_isSo.desc).map (fun d => d.parameters.length) = some 2 := by decide +kernel
theorem dd_X3_passYears : yX3_passYears.cls ≠ "java/lang/invoke/MethodHandle" ∧ yX3_passYears.cls ≠ "java/lang/invoke/VarHandle" ∧ (parseMethodDescriptor yX3_passYears.desc).map (fun d => d.parameters.length) = some 1 := by decide +kernel
theorem dd_X3_tryUnmaking : yX3_tryUnmaking.cls ≠ "java/lang/invoke/MethodHandle" ∧ yX3_tryUnmaking.cls ≠ "java/lang/invoke/VarHandle" ∧ (parseMethodDescriptor yX3_tryUnmaking.desc).map (fun d => d.parameters.length) = some 1 := by decide +kernel
theorem dd_X3_tryRemaking : yX3_tryRemaking.cls ≠ "java/lang/invoke/MethodHandle" ∧ yX3_tryRemaking.cls ≠ "java/lang/invoke/VarHandle" ∧ (parseMethodDescriptor yX3_tryRemaking.desc).map (fun d => d.parameters.length) = some 1 := by decide +kernel
theorem dd_J6_bitCount_0f7a4 : yJ6_bitCount_0f7a4.cls ≠ "java/lang/invoke/MethodHandle" ∧ yJ6_bitCount_0f7a4.cls ≠ "java/lang/invoke/VarHandle" ∧ (parseMethodDescriptor yJ6_bitCount_0f7a4.desc).map (fun d => d.parameters.length) = some 1 := by decide +kernel
theorem dd_X3_draw : yX3_draw.cls ≠ "java/lang/invoke/MethodHandle" ∧ yX3_draw.cls ≠ "java/lang/invoke/VarHandle" ∧ (parseMethodDescriptor yX3_draw.desc).map (fun d => d.parameters.length) = some 1 := by decide +kernel
theorem dd_X3_tryJoking : yX3_tryJoking.cls ≠ "java/lang/invoke/MethodHandle" ∧ yX3_tryJoking.cls ≠ "java/lang/invoke/VarHandle" ∧ (parseMethodDescriptor yX3_tryJoking.desc).map (fun d => d.parameters.length) = some 0 := by decide +kernel
theorem dd_X3_lineBehindStep : yX3_lineBehindStep.cls ≠ "java/lang/invoke/MethodHandle" ∧ yX3_lineBehindStep.cls ≠ "java/lang/invoke/VarHandle" ∧ (parseMethodDescriptor yX3_lineBehindStep.desc).map (fun d => d.parameters.length) = some 2 := by decide +kernel
theorem dd_X3_goThrough : yX3_goThrough.cls ≠ "java/lang/invoke/MethodHandle" ∧ yX3_goThrough.cls ≠ "java/lang/invoke/VarHandle" ∧ (parseMethodDescriptor yX3_goThrough.desc).map (fun d => d.parameters.length) = some 1 := by decide +kernel
theorem dd_X4_turnTo : yX4_turnTo.cls ≠ "java/lang/invoke/MethodHandle" ∧ yX4_turnTo.cls ≠ "java/lang/invoke/VarHandle" ∧ (parseMethodDescriptor yX4_turnTo.desc).map (fun d => d.parameters.length) = some 1 := by decide +kernel
theorem dd_X6_fallingWith : yX6_fallingWith.cls ≠ "java/lang/invoke/MethodHandle" ∧ yX6_fallingWith.cls ≠ "java/lang/invoke/VarHandle" ∧ (parseMethodDescriptor yX6_fallingWith.desc).map (fun d => d.parameters.length) = some 1 := by decide +kernel
theorem dd_X4_causesOf : yX4_causesOf.cls ≠ "java/lang/invoke/MethodHandle" ∧ yX4_causesOf.cls ≠ "java/lang/invoke/VarHandle" ∧ (parseMethodDescriptor yX4_causesOf.desc).map (fun d => d.parameters.length) = some 1 := by decide +kernel
theorem dd_X4_findFelling : yX4_findFelling.cls ≠ "java/lang/invoke/MethodHandle" ∧ yX4_findFelling.cls ≠ "java/lang/invoke/VarHandle" ∧ (parseMethodDescriptor yX4_findFelling.desc).map (fun d => d.parameters.length) = some 1 := by decide +kernel
theorem dd_X4_bestLook : yX4_bestLook.cls ≠ "java/lang/invoke/MethodHandle" ∧ yX4_bestLook.cls ≠ "java/lang/invoke/VarHandle" ∧ (parseMethodDescriptor yX4_bestLook.desc).map (fun d => d.parameters.length) = some 1 := by decide +kernel
theorem dd_X4_looksFor : yX4_looksFor.cls ≠ "java/lang/invoke/MethodHandle" ∧ yX4_looksFor.cls ≠ "java/lang/invoke/VarHandle" ∧ (parseMethodDescriptor yX4_looksFor.desc).map (fun d => d.parameters.length) = some 2 := by decide +kernel
theorem dd_X4_fewestLooks : yX4_fewestLooks.cls ≠ "java/lang/invoke/MethodHandle" ∧ yX4_fewestLooks.cls ≠ "java/lang/invoke/VarHandle" ∧ (parseMethodDescriptor yX4_fewestLooks.desc).map (fun d => d.parameters.length) = some 1 := by decide +kernel
theorem dd_X4_ordersWith : yX4_ordersWith.cls ≠ "java/lang/invoke/MethodHandle" ∧ yX4_ordersWith.cls ≠ "java/lang/invoke/VarHandle" ∧ (parseMethodDescriptor yX4_ordersWith.desc).map (fun d => d.parameters.length) = some 2 := by decide +kernel
theorem dd_X4_orders : yX4_orders.cls ≠ "java/lang/invoke/MethodHandle" ∧ yX4_orders.cls ≠ "java/lang/invoke/VarHandle" ∧ (parseMethodDescriptor yX4_orders.desc).map (fun d => d.parameters.length) = some 0 := by decide +kernel
theorem dd_X4_openings : yX4_openings.cls ≠ "java/lang/invoke/MethodHandle" ∧ yX4_openings.cls ≠ "java/lang/invoke/VarHandle" ∧ (parseMethodDescriptor yX4_openings.desc).map (fun d => d.parameters.length) = some 0 := by decide +kernel
theorem dd_X4_fewestUntrue : yX4_fewestUntrue.cls ≠ "java/lang/invoke/MethodHandle" ∧ yX4_fewestUntrue.cls ≠ "java/lang/invoke/VarHandle" ∧ (parseMethodDescriptor yX4_fewestUntrue.desc).map (fun d => d.parameters.length) = some 0 := by decide +kernel
theorem dd_X5_turnTo : yX5_turnTo.cls ≠ "java/lang/invoke/MethodHandle" ∧ yX5_turnTo.cls ≠ "java/lang/invoke/VarHandle" ∧ (parseMethodDescriptor yX5_turnTo.desc).map (fun d => d.parameters.length) = some 1 := by decide +kernel
theorem dd_X5_yearsTillWithout : yX5_yearsTillWithout.cls ≠ "java/lang/invoke/MethodHandle" ∧ yX5_yearsTillWithout.cls ≠ "java/lang/invoke/VarHandle" ∧ (parseMethodDescriptor yX5_yearsTillWithout.desc).map (fun d => d.parameters.length) = some 1 := by decide +kernel
theorem dd_X5_keeps : yX5_keeps.cls ≠ "java/lang/invoke/MethodHandle" ∧ yX5_keeps.cls ≠ "java/lang/invoke/VarHandle" ∧ (parseMethodDescriptor yX5_keeps.desc).map (fun d => d.parameters.length) = some 3 := by decide +kernel
theorem dd_X5_endsBy : yX5_endsBy.cls ≠ "java/lang/invoke/MethodHandle" ∧ yX5_endsBy.cls ≠ "java/lang/invoke/VarHandle" ∧ (parseMethodDescriptor yX5_endsBy.desc).map (fun d => d.parameters.length) = some 2 := by decide +kernel
theorem dd_X5_nextWithin : yX5_nextWithin.cls ≠ "java/lang/invoke/MethodHandle" ∧ yX5_nextWithin.cls ≠ "java/lang/invoke/VarHandle" ∧ (parseMethodDescriptor yX5_nextWithin.desc).map (fun d => d.parameters.length) = some 2 := by decide +kernel
theorem dd_X5_least : yX5_least.cls ≠ "java/lang/invoke/MethodHandle" ∧ yX5_least.cls ≠ "java/lang/invoke/VarHandle" ∧ (parseMethodDescriptor yX5_least.desc).map (fun d => d.parameters.length) = some 3 := by decide +kernel
theorem dd_X5_leastKeeping : yX5_leastKeeping.cls ≠ "java/lang/invoke/MethodHandle" ∧ yX5_leastKeeping.cls ≠ "java/lang/invoke/VarHandle" ∧ (parseMethodDescriptor yX5_leastKeeping.desc).map (fun d => d.parameters.length) = some 2 := by decide +kernel
theorem dd_X5_leastEnding : yX5_leastEnding.cls ≠ "java/lang/invoke/MethodHandle" ∧ yX5_leastEnding.cls ≠ "java/lang/invoke/VarHandle" ∧ (parseMethodDescriptor yX5_leastEnding.desc).map (fun d => d.parameters.length) = some 1 := by decide +kernel
theorem dd_X5_worthOfNext : yX5_worthOfNext.cls ≠ "java/lang/invoke/MethodHandle" ∧ yX5_worthOfNext.cls ≠ "java/lang/invoke/VarHandle" ∧ (parseMethodDescriptor yX5_worthOfNext.desc).map (fun d => d.parameters.length) = some 2 := by decide +kernel
theorem dd_X5_bestNext : yX5_bestNext.cls ≠ "java/lang/invoke/MethodHandle" ∧ yX5_bestNext.cls ≠ "java/lang/invoke/VarHandle" ∧ (parseMethodDescriptor yX5_bestNext.desc).map (fun d => d.parameters.length) = some 2 := by decide +kernel
theorem dd_X5_listFor : yX5_listFor.cls ≠ "java/lang/invoke/MethodHandle" ∧ yX5_listFor.cls ≠ "java/lang/invoke/VarHandle" ∧ (parseMethodDescriptor yX5_listFor.desc).map (fun d => d.parameters.length) = some 1 := by decide +kernel
theorem dd_X5_startGame : yX5_startGame.cls ≠ "java/lang/invoke/MethodHandle" ∧ yX5_startGame.cls ≠ "java/lang/invoke/VarHandle" ∧ (parseMethodDescriptor yX5_startGame.desc).map (fun d => d.parameters.length) = some 1 := by decide +kernel
theorem dd_X5_score : yX5_score.cls ≠ "java/lang/invoke/MethodHandle" ∧ yX5_score.cls ≠ "java/lang/invoke/VarHandle" ∧ (parseMethodDescriptor yX5_score.desc).map (fun d => d.parameters.length) = some 1 := by decide +kernel
theorem dd_X5_play : yX5_play.cls ≠ "java/lang/invoke/MethodHandle" ∧ yX5_play.cls ≠ "java/lang/invoke/VarHandle" ∧ (parseMethodDescriptor yX5_play.desc).map (fun d => d.parameters.length) = some 3 := by decide +kernel
theorem dd_X5_worthOfGame : yX5_worthOfGame.cls ≠ "java/lang/invoke/MethodHandle" ∧ yX5_worthOfGame.cls ≠ "java/lang/invoke/VarHandle" ∧ (parseMethodDescriptor yX5_worthOfGame.desc).map (fun d => d.parameters.length) = some 2 := by decide +kernel
theorem dd_X5_bestOpening : yX5_bestOpening.cls ≠ "java/lang/invoke/MethodHandle" ∧ yX5_bestOpening.cls ≠ "java/lang/invoke/VarHandle" ∧ (parseMethodDescriptor yX5_bestOpening.desc).map (fun d => d.parameters.length) = some 2 := by decide +kernel
theorem dd_X5_leastMakingAll : yX5_leastMakingAll.cls ≠ "java/lang/invoke/MethodHandle" ∧ yX5_leastMakingAll.cls ≠ "java/lang/invoke/VarHandle" ∧ (parseMethodDescriptor yX5_leastMakingAll.desc).map (fun d => d.parameters.length) = some 2 := by decide +kernel
theorem dd_X5_leastMaking : yX5_leastMaking.cls ≠ "java/lang/invoke/MethodHandle" ∧ yX5_leastMaking.cls ≠ "java/lang/invoke/VarHandle" ∧ (parseMethodDescriptor yX5_leastMaking.desc).map (fun d => d.parameters.length) = some 1 := by decide +kernel
theorem dd_X6_turnTo : yX6_turnTo.cls ≠ "java/lang/invoke/MethodHandle" ∧ yX6_turnTo.cls ≠ "java/lang/invoke/VarHandle" ∧ (parseMethodDescriptor yX6_turnTo.desc).map (fun d => d.parameters.length) = some 1 := by decide +kernel
theorem dd_X8_readEnd : yX8_readEnd.cls ≠ "java/lang/invoke/MethodHandle" ∧ yX8_readEnd.cls ≠ "java/lang/invoke/VarHandle" ∧ (parseMethodDescriptor yX8_readEnd.desc).map (fun d => d.parameters.length) = some 0 := by decide +kernel
theorem dd_X8_isStep : yX8_isStep.cls ≠ "java/lang/invoke/MethodHandle" ∧ yX8_isStep.cls ≠ "java/lang/invoke/VarHandle" ∧ (parseMethodDescriptor yX8_isStep.desc).map (fun d => d.parameters.length) = some 0 := by decide +kernel
theorem dd_X8_beginStep : yX8_beginStep.cls ≠ "java/lang/invoke/MethodHandle" ∧ yX8_beginStep.cls ≠ "java/lang/invoke/VarHandle" ∧ (parseMethodDescriptor yX8_beginStep.desc).map (fun d => d.parameters.length) = some 0 := by decide +kernel
theorem dd_X8_readAmount : yX8_readAmount.cls ≠ "java/lang/invoke/MethodHandle" ∧ yX8_readAmount.cls ≠ "java/lang/invoke/VarHandle" ∧ (parseMethodDescriptor yX8_readAmount.desc).map (fun d => d.parameters.length) = some 2 := by decide +kernel
theorem dd_X8_readThing : yX8_readThing.cls ≠ "java/lang/invoke/MethodHandle" ∧ yX8_readThing.cls ≠ "java/lang/invoke/VarHandle" ∧ (parseMethodDescriptor yX8_readThing.desc).map (fun d => d.parameters.length) = some 1 := by decide +kernel
theorem dd_X8_readTest : yX8_readTest.cls ≠ "java/lang/invoke/MethodHandle" ∧ yX8_readTest.cls ≠ "java/lang/invoke/VarHandle" ∧ (parseMethodDescriptor yX8_readTest.desc).map (fun d => d.parameters.length) = some 0 := by decide +kernel
theorem dd_X8_readStep : yX8_readStep.cls ≠ "java/lang/invoke/MethodHandle" ∧ yX8_readStep.cls ≠ "java/lang/invoke/VarHandle" ∧ (parseMethodDescriptor yX8_readStep.desc).map (fun d => d.parameters.length) = some 0 := by decide +kernel
theorem dd_X8_takes : yX8_takes.cls ≠ "java/lang/invoke/MethodHandle" ∧ yX8_takes.cls ≠ "java/lang/invoke/VarHandle" ∧ (parseMethodDescriptor yX8_takes.desc).map (fun d => d.parameters.length) = some 3 := by decide +kernel
theorem dd_X9_hasRoom : yX9_hasRoom.cls ≠ "java/lang/invoke/MethodHandle" ∧ yX9_hasRoom.cls ≠ "java/lang/invoke/VarHandle" ∧ (parseMethodDescriptor yX9_hasRoom.desc).map (fun d => d.parameters.length) = some 0 := by decide +kernel
theorem dd_X9_add : yX9_add.cls ≠ "java/lang/invoke/MethodHandle" ∧ yX9_add.cls ≠ "java/lang/invoke/VarHandle" ∧ (parseMethodDescriptor yX9_add.desc).map (fun d => d.parameters.length) = some 1 := by decide +kernel
theorem dd_X9_empty : yX9_empty.cls ≠ "java/lang/invoke/MethodHandle" ∧ yX9_empty.cls ≠ "java/lang/invoke/VarHandle" ∧ (parseMethodDescriptor yX9_empty.desc).map (fun d => d.parameters.length) = some 0 := by decide +kernel
theorem dd_X10_isTray : yX10_isTray.cls ≠ "java/lang/invoke/MethodHandle" ∧ yX10_isTray.cls ≠ "java/lang/invoke/VarHandle" ∧ (parseMethodDescriptor yX10_isTray.desc).map (fun d => d.parameters.length) = some 1 := by decide +kernel
theorem dd_X10_isSort : yX10_isSort.cls ≠ "java/lang/invoke/MethodHandle" ∧ yX10_isSort.cls ≠ "java/lang/invoke/VarHandle" ∧ (parseMethodDescriptor yX10_isSort.desc).map (fun d => d.parameters.length) = some 1 := by decide +kernel
theorem dd_X10_isMissing : yX10_isMissing.cls ≠ "java/lang/invoke/MethodHandle" ∧ yX10_isMissing.cls ≠ "java/lang/invoke/VarHandle" ∧ (parseMethodDescriptor yX10_isMissing.desc).map (fun d => d.parameters.length) = some 1 := by decide +kernel
theorem dd_X10_areAlike : yX10_areAlike.cls ≠ "java/lang/invoke/MethodHandle" ∧ yX10_areAlike.cls ≠ "java/lang/invoke/VarHandle" ∧ (parseMethodDescriptor yX10_areAlike.desc).map (fun d => d.parameters.length) = some 2 := by decide +kernel
theorem dd_X10_has : yX10_has.cls ≠ "java/lang/invoke/MethodHandle" ∧ yX10_has.cls ≠ "java/lang/invoke/VarHandle" ∧ (parseMethodDescriptor yX10_has.desc).map (fun d => d.parameters.length) = some 3 := by decide +kernel
theorem dd_X10_lay : yX10_lay.cls ≠ "java/lang/invoke/MethodHandle" ∧ yX10_lay.cls ≠ "java/lang/invoke/VarHandle" ∧ (parseMethodDescriptor yX10_lay.desc).map (fun d => d.parameters.length) = some 3 := by decide +kernel
theorem dd_X10_cut : yX10_cut.cls ≠ "java/lang/invoke/MethodHandle" ∧ yX10_cut.cls ≠ "java/lang/invoke/VarHandle" ∧ (parseMethodDescriptor yX10_cut.desc).map (fun d => d.parameters.length) = some 2 := by decide +kernel
theorem dd_X10_put : yX10_put.cls ≠ "java/lang/invoke/MethodHandle" ∧ yX10_put.cls ≠ "java/lang/invoke/VarHandle" ∧ (parseMethodDescriptor yX10_put.desc).map (fun d => d.parameters.length) = some 3 := by decide +kernel
theorem dd_X10_number : yX10_number.cls ≠ "java/lang/invoke/MethodHandle" ∧ yX10_number.cls ≠ "java/lang/invoke/VarHandle" ∧ (parseMethodDescriptor yX10_number.desc).map (fun d => d.parameters.length) = some 2 := by decide +kernel
theorem dd_X10_move : yX10_move.cls ≠ "java/lang/invoke/MethodHandle" ∧ yX10_move.cls ≠ "java/lang/invoke/VarHandle" ∧ (parseMethodDescriptor yX10_move.desc).map (fun d => d.parameters.length) = some 5 := by decide +kernel
theorem dd_X11_fine : yX11_fine.cls ≠ "java/lang/invoke/MethodHandle" ∧ yX11_fine.cls ≠ "java/lang/invoke/VarHandle" ∧ (parseMethodDescriptor yX11_fine.desc).map (fun d => d.parameters.length) = some 1 := by decide +kernel
theorem dd_X11_fineSo : yX11_fineSo.cls ≠ "java/lang/invoke/MethodHandle" ∧ yX11_fineSo.cls ≠ "java/lang/invoke/VarHandle" ∧ (parseMethodDescriptor yX11_fineSo.desc).map (fun d => d.parameters.length) = some 0 := by decide +kernel
theorem dd_X11_refuse : yX11_refuse.cls ≠ "java/lang/invoke/MethodHandle" ∧ yX11_refuse.cls ≠ "java/lang/invoke/VarHandle" ∧ (parseMethodDescriptor yX11_refuse.desc).map (fun d => d.parameters.length) = some 1 := by decide +kernel
theorem dd_X11_refuseSo : yX11_refuseSo.cls ≠ "java/lang/invoke/MethodHandle" ∧ yX11_refuseSo.cls ≠ "java/lang/invoke/VarHandle" ∧ (parseMethodDescriptor yX11_refuseSo.desc).map (fun d => d.parameters.length) = some 1 := by decide +kernel
theorem dd_X11_fineOrNone : yX11_fineOrNone.cls ≠ "java/lang/invoke/MethodHandle" ∧ yX11_fineOrNone.cls ≠ "java/lang/invoke/VarHandle" ∧ (parseMethodDescriptor yX11_fineOrNone.desc).map (fun d => d.parameters.length) = some 1 := by decide +kernel
theorem dd_X11_tellFraction : yX11_tellFraction.cls ≠ "java/lang/invoke/MethodHandle" ∧ yX11_tellFraction.cls ≠ "java/lang/invoke/VarHandle" ∧ (parseMethodDescriptor yX11_tellFraction.desc).map (fun d => d.parameters.length) = some 2 := by decide +kernel
theorem dd_X11_noThing : yX11_noThing.cls ≠ "java/lang/invoke/MethodHandle" ∧ yX11_noThing.cls ≠ "java/lang/invoke/VarHandle" ∧ (parseMethodDescriptor yX11_noThing.desc).map (fun d => d.parameters.length) = some 1 := by decide +kernel
theorem dd_X11_noWork : yX11_noWork.cls ≠ "java/lang/invoke/MethodHandle" ∧ yX11_noWork.cls ≠ "java/lang/invoke/VarHandle" ∧ (parseMethodDescriptor yX11_noWork.desc).map (fun d => d.parameters.length) = some 1 := by decide +kernel
theorem dd_X11_noVoter : yX11_noVoter.cls ≠ "java/lang/invoke/MethodHandle" ∧ yX11_noVoter.cls ≠ "java/lang/invoke/VarHandle" ∧ (parseMethodDescriptor yX11_noVoter.desc).map (fun d => d.parameters.length) = some 1 := by decide +kernel
theorem dd_X11_noSetOfThings : yX11_noSetOfThings.cls ≠ "java/lang/invoke/MethodHandle" ∧ yX11_noSetOfThings.cls ≠ "java/lang/invoke/VarHandle" ∧ (parseMethodDescriptor yX11_noSetOfThings.desc).map (fun d => d.parameters.length) = some 1 := by decide +kernel
theorem dd_X11_isOneOf : yX11_isOneOf.cls ≠ "java/lang/invoke/MethodHandle" ∧ yX11_isOneOf.cls ≠ "java/lang/invoke/VarHandle" ∧ (parseMethodDescriptor yX11_isOneOf.desc).map (fun d => d.parameters.length) = some 2 := by decide +kernel
theorem dd_X11_turnToNow : yX11_turnToNow.cls ≠ "java/lang/invoke/MethodHandle" ∧ yX11_turnToNow.cls ≠ "java/lang/invoke/VarHandle" ∧ (parseMethodDescriptor yX11_turnToNow.desc).map (fun d => d.parameters.length) = some 0 := by decide +kernel
theorem dd_X11_status : yX11_status.cls ≠ "java/lang/invoke/MethodHandle" ∧ yX11_status.cls ≠ "java/lang/invoke/VarHandle" ∧ (parseMethodDescriptor yX11_status.desc).map (fun d => d.parameters.length) = some 0 := by decide +kernel
theorem dd_X11_top : yX11_top.cls ≠ "java/lang/invoke/MethodHandle" ∧ yX11_top.cls ≠ "java/lang/invoke/VarHandle" ∧ (parseMethodDescriptor yX11_top.desc).map (fun d => d.parameters.length) = some 0 := by decide +kernel
theorem dd_X11_bottom : yX11_bottom.cls ≠ "java/lang/invoke/MethodHandle" ∧ yX11_bottom.cls ≠ "java/lang/invoke/VarHandle" ∧ (parseMethodDescriptor yX11_bottom.desc).map (fun d => d.parameters.length) = some 0 := by decide +kernel
theorem dd_X11_tray : yX11_tray.cls ≠ "java/lang/invoke/MethodHandle" ∧ yX11_tray.cls ≠ "java/lang/invoke/VarHandle" ∧ (parseMethodDescriptor yX11_tray.desc).map (fun d => d.parameters.length) = some 3 := by decide +kernel
theorem dd_X11_placeFault : yX11_placeFault.cls ≠ "java/lang/invoke/MethodHandle" ∧ yX11_placeFault.cls ≠ "java/lang/invoke/VarHandle" ∧ (parseMethodDescriptor yX11_placeFault.desc).map (fun d => d.parameters.length) = some 2 := by decide +kernel
theorem dd_X11_write : yX11_write.cls ≠ "java/lang/invoke/MethodHandle" ∧ yX11_write.cls ≠ "java/lang/invoke/VarHandle" ∧ (parseMethodDescriptor yX11_write.desc).map (fun d => d.parameters.length) = some 3 := by decide +kernel
theorem dd_X11_read : yX11_read.cls ≠ "java/lang/invoke/MethodHandle" ∧ yX11_read.cls ≠ "java/lang/invoke/VarHandle" ∧ (parseMethodDescriptor yX11_read.desc).map (fun d => d.parameters.length) = some 2 := by decide +kernel
theorem dd_X11_pour : yX11_pour.cls ≠ "java/lang/invoke/MethodHandle" ∧ yX11_pour.cls ≠ "java/lang/invoke/VarHandle" ∧ (parseMethodDescriptor yX11_pour.desc).map (fun d => d.parameters.length) = some 5 := by decide +kernel
theorem dd_X11_feed : yX11_feed.cls ≠ "java/lang/invoke/MethodHandle" ∧ yX11_feed.cls ≠ "java/lang/invoke/VarHandle" ∧ (parseMethodDescriptor yX11_feed.desc).map (fun d => d.parameters.length) = some 5 := by decide +kernel
theorem dd_X11_tellFault : yX11_tellFault.cls ≠ "java/lang/invoke/MethodHandle" ∧ yX11_tellFault.cls ≠ "java/lang/invoke/VarHandle" ∧ (parseMethodDescriptor yX11_tellFault.desc).map (fun d => d.parameters.length) = some 1 := by decide +kernel
theorem dd_X11_city : yX11_city.cls ≠ "java/lang/invoke/MethodHandle" ∧ yX11_city.cls ≠ "java/lang/invoke/VarHandle" ∧ (parseMethodDescriptor yX11_city.desc).map (fun d => d.parameters.length) = some 1 := by decide +kernel
theorem dd_X11_centuries : yX11_centuries.cls ≠ "java/lang/invoke/MethodHandle" ∧ yX11_centuries.cls ≠ "java/lang/invoke/VarHandle" ∧ (parseMethodDescriptor yX11_centuries.desc).map (fun d => d.parameters.length) = some 1 := by decide +kernel
theorem dd_X11_fault : yX11_fault.cls ≠ "java/lang/invoke/MethodHandle" ∧ yX11_fault.cls ≠ "java/lang/invoke/VarHandle" ∧ (parseMethodDescriptor yX11_fault.desc).map (fun d => d.parameters.length) = some 1 := by decide +kernel
theorem dd_X11_many : yX11_many.cls ≠ "java/lang/invoke/MethodHandle" ∧ yX11_many.cls ≠ "java/lang/invoke/VarHandle" ∧ (parseMethodDescriptor yX11_many.desc).map (fun d => d.parameters.length) = some 1 := by decide +kernel
theorem dd_X11_thing : yX11_thing.cls ≠ "java/lang/invoke/MethodHandle" ∧ yX11_thing.cls ≠ "java/lang/invoke/VarHandle" ∧ (parseMethodDescriptor yX11_thing.desc).map (fun d => d.parameters.length) = some 2 := by decide +kernel
theorem dd_X11_making : yX11_making.cls ≠ "java/lang/invoke/MethodHandle" ∧ yX11_making.cls ≠ "java/lang/invoke/VarHandle" ∧ (parseMethodDescriptor yX11_making.desc).map (fun d => d.parameters.length) = some 2 := by decide +kernel
theorem dd_X11_needs : yX11_needs.cls ≠ "java/lang/invoke/MethodHandle" ∧ yX11_needs.cls ≠ "java/lang/invoke/VarHandle" ∧ (parseMethodDescriptor yX11_needs.desc).map (fun d => d.parameters.length) = some 1 := by decide +kernel
theorem dd_X11_hate : yX11_hate.cls ≠ "java/lang/invoke/MethodHandle" ∧ yX11_hate.cls ≠ "java/lang/invoke/VarHandle" ∧ (parseMethodDescriptor yX11_hate.desc).map (fun d => d.parameters.length) = some 2 := by decide +kernel
theorem dd_X11_copyWorth : yX11_copyWorth.cls ≠ "java/lang/invoke/MethodHandle" ∧ yX11_copyWorth.cls ≠ "java/lang/invoke/VarHandle" ∧ (parseMethodDescriptor yX11_copyWorth.desc).map (fun d => d.parameters.length) = some 1 := by decide +kernel
theorem dd_X11_year : yX11_year.cls ≠ "java/lang/invoke/MethodHandle" ∧ yX11_year.cls ≠ "java/lang/invoke/VarHandle" ∧ (parseMethodDescriptor yX11_year.desc).map (fun d => d.parameters.length) = some 1 := by decide +kernel
theorem dd_X11_unmake : yX11_unmake.cls ≠ "java/lang/invoke/MethodHandle" ∧ yX11_unmake.cls ≠ "java/lang/invoke/VarHandle" ∧ (parseMethodDescriptor yX11_unmake.desc).map (fun d => d.parameters.length) = some 1 := by decide +kernel
theorem dd_X11_remake : yX11_remake.cls ≠ "java/lang/invoke/MethodHandle" ∧ yX11_remake.cls ≠ "java/lang/invoke/VarHandle" ∧ (parseMethodDescriptor yX11_remake.desc).map (fun d => d.parameters.length) = some 1 := by decide +kernel
theorem dd_X11_exempt : yX11_exempt.cls ≠ "java/lang/invoke/MethodHandle" ∧ yX11_exempt.cls ≠ "java/lang/invoke/VarHandle" ∧ (parseMethodDescriptor yX11_exempt.desc).map (fun d => d.parameters.length) = some 2 := by decide +kernel
theorem dd_X11_grudge : yX11_grudge.cls ≠ "java/lang/invoke/MethodHandle" ∧ yX11_grudge.cls ≠ "java/lang/invoke/VarHandle" ∧ (parseMethodDescriptor yX11_grudge.desc).map (fun d => d.parameters.length) = some 3 := by decide +kernel
theorem dd_X11_rule : yX11_rule.cls ≠ "java/lang/invoke/MethodHandle" ∧ yX11_rule.cls ≠ "java/lang/invoke/VarHandle" ∧ (parseMethodDescriptor yX11_rule.desc).map (fun d => d.parameters.length) = some 1 := by decide +kernel
theorem dd_X11_vote : yX11_vote.cls ≠ "java/lang/invoke/MethodHandle" ∧ yX11_vote.cls ≠ "java/lang/invoke/VarHandle" ∧ (parseMethodDescriptor yX11_vote.desc).map (fun d => d.parameters.length) = some 0 := by decide +kernel
theorem dd_X11_votes : yX11_votes.cls ≠ "java/lang/invoke/MethodHandle" ∧ yX11_votes.cls ≠ "java/lang/invoke/VarHandle" ∧ (parseMethodDescriptor yX11_votes.desc).map (fun d => d.parameters.length) = some 1 := by decide +kernel
theorem dd_X11_voteBy : yX11_voteBy.cls ≠ "java/lang/invoke/MethodHandle" ∧ yX11_voteBy.cls ≠ "java/lang/invoke/VarHandle" ∧ (parseMethodDescriptor yX11_voteBy.desc).map (fun d => d.parameters.length) = some 1 := by decide +kernel
theorem dd_X11_sway : yX11_sway.cls ≠ "java/lang/invoke/MethodHandle" ∧ yX11_sway.cls ≠ "java/lang/invoke/VarHandle" ∧ (parseMethodDescriptor yX11_sway.desc).map (fun d => d.parameters.length) = some 1 := by decide +kernel
theorem dd_X11_uprightFault : yX11_uprightFault.cls ≠ "java/lang/invoke/MethodHandle" ∧ yX11_uprightFault.cls ≠ "java/lang/invoke/VarHandle" ∧ (parseMethodDescriptor yX11_uprightFault.desc).map (fun d => d.parameters.length) = some 1 := by decide +kernel
theorem dd_X11_falls : yX11_falls.cls ≠ "java/lang/invoke/MethodHandle" ∧ yX11_falls.cls ≠ "java/lang/invoke/VarHandle" ∧ (parseMethodDescriptor yX11_falls.desc).map (fun d => d.parameters.length) = some 1 := by decide +kernel
theorem dd_X11_loss : yX11_loss.cls ≠ "java/lang/invoke/MethodHandle" ∧ yX11_loss.cls ≠ "java/lang/invoke/VarHandle" ∧ (parseMethodDescriptor yX11_loss.desc).map (fun d => d.parameters.length) = some 1 := by decide +kernel
theorem dd_X11_keystone : yX11_keystone.cls ≠ "java/lang/invoke/MethodHandle" ∧ yX11_keystone.cls ≠ "java/lang/invoke/VarHandle" ∧ (parseMethodDescriptor yX11_keystone.desc).map (fun d => d.parameters.length) = some 0 := by decide +kernel
theorem dd_X11_goneBy : yX11_goneBy.cls ≠ "java/lang/invoke/MethodHandle" ∧ yX11_goneBy.cls ≠ "java/lang/invoke/VarHandle" ∧ (parseMethodDescriptor yX11_goneBy.desc).map (fun d => d.parameters.length) = some 1 := by decide +kernel
theorem dd_X11_ends : yX11_ends.cls ≠ "java/lang/invoke/MethodHandle" ∧ yX11_ends.cls ≠ "java/lang/invoke/VarHandle" ∧ (parseMethodDescriptor yX11_ends.desc).map (fun d => d.parameters.length) = some 1 := by decide +kernel
theorem dd_X11_later : yX11_later.cls ≠ "java/lang/invoke/MethodHandle" ∧ yX11_later.cls ≠ "java/lang/invoke/VarHandle" ∧ (parseMethodDescriptor yX11_later.desc).map (fun d => d.parameters.length) = some 1 := by decide +kernel
theorem dd_X11_keepSet : yX11_keepSet.cls ≠ "java/lang/invoke/MethodHandle" ∧ yX11_keepSet.cls ≠ "java/lang/invoke/VarHandle" ∧ (parseMethodDescriptor yX11_keepSet.desc).map (fun d => d.parameters.length) = some 2 := by decide +kernel
theorem dd_X11_sizeOf : yX11_sizeOf.cls ≠ "java/lang/invoke/MethodHandle" ∧ yX11_sizeOf.cls ≠ "java/lang/invoke/VarHandle" ∧ (parseMethodDescriptor yX11_sizeOf.desc).map (fun d => d.parameters.length) = some 1 := by decide +kernel
theorem dd_X11_keep : yX11_keep.cls ≠ "java/lang/invoke/MethodHandle" ∧ yX11_keep.cls ≠ "java/lang/invoke/VarHandle" ∧ (parseMethodDescriptor yX11_keep.desc).map (fun d => d.parameters.length) = some 2 := by decide +kernel
theorem dd_X11_strikeSet : yX11_strikeSet.cls ≠ "java/lang/invoke/MethodHandle" ∧ yX11_strikeSet.cls ≠ "java/lang/invoke/VarHandle" ∧ (parseMethodDescriptor yX11_strikeSet.desc).map (fun d => d.parameters.length) = some 1 := by decide +kernel
theorem dd_X11_strike : yX11_strike.cls ≠ "java/lang/invoke/MethodHandle" ∧ yX11_strike.cls ≠ "java/lang/invoke/VarHandle" ∧ (parseMethodDescriptor yX11_strike.desc).map (fun d => d.parameters.length) = some 1 := by decide +kernel
theorem dd_X11_agenda : yX11_agenda.cls ≠ "java/lang/invoke/MethodHandle" ∧ yX11_agenda.cls ≠ "java/lang/invoke/VarHandle" ∧ (parseMethodDescriptor yX11_agenda.desc).map (fun d => d.parameters.length) = some 1 := by decide +kernel
theorem dd_X11_agendaAt : yX11_agendaAt.cls ≠ "java/lang/invoke/MethodHandle" ∧ yX11_agendaAt.cls ≠ "java/lang/invoke/VarHandle" ∧ (parseMethodDescriptor yX11_agendaAt.desc).map (fun d => d.parameters.length) = some 1 := by decide +kernel
theorem dd_X11_noGame : yX11_noGame.cls ≠ "java/lang/invoke/MethodHandle" ∧ yX11_noGame.cls ≠ "java/lang/invoke/VarHandle" ∧ (parseMethodDescriptor yX11_noGame.desc).map (fun d => d.parameters.length) = some 2 := by decide +kernel
theorem dd_X11_game : yX11_game.cls ≠ "java/lang/invoke/MethodHandle" ∧ yX11_game.cls ≠ "java/lang/invoke/VarHandle" ∧ (parseMethodDescriptor yX11_game.desc).map (fun d => d.parameters.length) = some 2 := by decide +kernel
theorem dd_X11_firstMove : yX11_firstMove.cls ≠ "java/lang/invoke/MethodHandle" ∧ yX11_firstMove.cls ≠ "java/lang/invoke/VarHandle" ∧ (parseMethodDescriptor yX11_firstMove.desc).map (fun d => d.parameters.length) = some 2 := by decide +kernel
theorem dd_X11_againSet : yX11_againSet.cls ≠ "java/lang/invoke/MethodHandle" ∧ yX11_againSet.cls ≠ "java/lang/invoke/VarHandle" ∧ (parseMethodDescriptor yX11_againSet.desc).map (fun d => d.parameters.length) = some 1 := by decide +kernel
theorem dd_X11_again : yX11_again.cls ≠ "java/lang/invoke/MethodHandle" ∧ yX11_again.cls ≠ "java/lang/invoke/VarHandle" ∧ (parseMethodDescriptor yX11_again.desc).map (fun d => d.parameters.length) = some 1 := by decide +kernel
theorem dd_X11_wasIt : yX11_wasIt.cls ≠ "java/lang/invoke/MethodHandle" ∧ yX11_wasIt.cls ≠ "java/lang/invoke/VarHandle" ∧ (parseMethodDescriptor yX11_wasIt.desc).map (fun d => d.parameters.length) = some 1 := by decide +kernel
theorem dd_X11_noSuspects : yX11_noSuspects.cls ≠ "java/lang/invoke/MethodHandle" ∧ yX11_noSuspects.cls ≠ "java/lang/invoke/VarHandle" ∧ (parseMethodDescriptor yX11_noSuspects.desc).map (fun d => d.parameters.length) = some 2 := by decide +kernel
theorem dd_X11_tells : yX11_tells.cls ≠ "java/lang/invoke/MethodHandle" ∧ yX11_tells.cls ≠ "java/lang/invoke/VarHandle" ∧ (parseMethodDescriptor yX11_tells.desc).map (fun d => d.parameters.length) = some 1 := by decide +kernel
theorem dd_X11_sure : yX11_sure.cls ≠ "java/lang/invoke/MethodHandle" ∧ yX11_sure.cls ≠ "java/lang/invoke/VarHandle" ∧ (parseMethodDescriptor yX11_sure.desc).map (fun d => d.parameters.length) = some 1 := by decide +kernel
theorem dd_X11_histories : yX11_histories.cls ≠ "java/lang/invoke/MethodHandle" ∧ yX11_histories.cls ≠ "java/lang/invoke/VarHandle" ∧ (parseMethodDescriptor yX11_histories.desc).map (fun d => d.parameters.length) = some 0 := by decide +kernel
theorem dd_X11_firsts : yX11_firsts.cls ≠ "java/lang/invoke/MethodHandle" ∧ yX11_firsts.cls ≠ "java/lang/invoke/VarHandle" ∧ (parseMethodDescriptor yX11_firsts.desc).map (fun d => d.parameters.length) = some 0 := by decide +kernel
theorem dd_X11_clash : yX11_clash.cls ≠ "java/lang/invoke/MethodHandle" ∧ yX11_clash.cls ≠ "java/lang/invoke/VarHandle" ∧ (parseMethodDescriptor yX11_clash.desc).map (fun d => d.parameters.length) = some 0 := by decide +kernel
theorem dd_X11_aheadOdds : yX11_aheadOdds.cls ≠ "java/lang/invoke/MethodHandle" ∧ yX11_aheadOdds.cls ≠ "java/lang/invoke/VarHandle" ∧ (parseMethodDescriptor yX11_aheadOdds.desc).map (fun d => d.parameters.length) = some 2 := by decide +kernel
theorem dd_X11_live : yX11_live.cls ≠ "java/lang/invoke/MethodHandle" ∧ yX11_live.cls ≠ "java/lang/invoke/VarHandle" ∧ (parseMethodDescriptor yX11_live.desc).map (fun d => d.parameters.length) = some 1 := by decide +kernel
theorem dd_X11_lived : yX11_lived.cls ≠ "java/lang/invoke/MethodHandle" ∧ yX11_lived.cls ≠ "java/lang/invoke/VarHandle" ∧ (parseMethodDescriptor yX11_lived.desc).map (fun d => d.parameters.length) = some 1 := by decide +kernel
theorem dd_X11_mean : yX11_mean.cls ≠ "java/lang/invoke/MethodHandle" ∧ yX11_mean.cls ≠ "java/lang/invoke/VarHandle" ∧ (parseMethodDescriptor yX11_mean.desc).map (fun d => d.parameters.length) = some 2 := by decide +kernel
theorem dd_X11_mark : yX11_mark.cls ≠ "java/lang/invoke/MethodHandle" ∧ yX11_mark.cls ≠ "java/lang/invoke/VarHandle" ∧ (parseMethodDescriptor yX11_mark.desc).map (fun d => d.parameters.length) = some 0 := by decide +kernel
theorem dd_X11_back : yX11_back.cls ≠ "java/lang/invoke/MethodHandle" ∧ yX11_back.cls ≠ "java/lang/invoke/VarHandle" ∧ (parseMethodDescriptor yX11_back.desc).map (fun d => d.parameters.length) = some 0 := by decide +kernel
theorem dd_X12_status : yX12_status.cls ≠ "java/lang/invoke/MethodHandle" ∧ yX12_status.cls ≠ "java/lang/invoke/VarHandle" ∧ (parseMethodDescriptor yX12_status.desc).map (fun d => d.parameters.length) = some 0 := by decide +kernel
theorem dd_X12_top : yX12_top.cls ≠ "java/lang/invoke/MethodHandle" ∧ yX12_top.cls ≠ "java/lang/invoke/VarHandle" ∧ (parseMethodDescriptor yX12_top.desc).map (fun d => d.parameters.length) = some 0 := by decide +kernel
theorem dd_X12_bottom : yX12_bottom.cls ≠ "java/lang/invoke/MethodHandle" ∧ yX12_bottom.cls ≠ "java/lang/invoke/VarHandle" ∧ (parseMethodDescriptor yX12_bottom.desc).map (fun d => d.parameters.length) = some 0 := by decide +kernel
theorem dd_X12_refuse : yX12_refuse.cls ≠ "java/lang/invoke/MethodHandle" ∧ yX12_refuse.cls ≠ "java/lang/invoke/VarHandle" ∧ (parseMethodDescriptor yX12_refuse.desc).map (fun d => d.parameters.length) = some 1 := by decide +kernel
theorem dd_X12_no : yX12_no.cls ≠ "java/lang/invoke/MethodHandle" ∧ yX12_no.cls ≠ "java/lang/invoke/VarHandle" ∧ (parseMethodDescriptor yX12_no.desc).map (fun d => d.parameters.length) = some 1 := by decide +kernel
theorem dd_X12_isIn : yX12_isIn.cls ≠ "java/lang/invoke/MethodHandle" ∧ yX12_isIn.cls ≠ "java/lang/invoke/VarHandle" ∧ (parseMethodDescriptor yX12_isIn.desc).map (fun d => d.parameters.length) = some 3 := by decide +kernel
theorem dd_X12_fraction : yX12_fraction.cls ≠ "java/lang/invoke/MethodHandle" ∧ yX12_fraction.cls ≠ "java/lang/invoke/VarHandle" ∧ (parseMethodDescriptor yX12_fraction.desc).map (fun d => d.parameters.length) = some 2 := by decide +kernel
theorem dd_X12_cut : yX12_cut.cls ≠ "java/lang/invoke/MethodHandle" ∧ yX12_cut.cls ≠ "java/lang/invoke/VarHandle" ∧ (parseMethodDescriptor yX12_cut.desc).map (fun d => d.parameters.length) = some 2 := by decide +kernel
theorem dd_X12_tray : yX12_tray.cls ≠ "java/lang/invoke/MethodHandle" ∧ yX12_tray.cls ≠ "java/lang/invoke/VarHandle" ∧ (parseMethodDescriptor yX12_tray.desc).map (fun d => d.parameters.length) = some 3 := by decide +kernel
theorem dd_X12_trayed : yX12_trayed.cls ≠ "java/lang/invoke/MethodHandle" ∧ yX12_trayed.cls ≠ "java/lang/invoke/VarHandle" ∧ (parseMethodDescriptor yX12_trayed.desc).map (fun d => d.parameters.length) = some 1 := by decide +kernel
theorem dd_X12_placed : yX12_placed.cls ≠ "java/lang/invoke/MethodHandle" ∧ yX12_placed.cls ≠ "java/lang/invoke/VarHandle" ∧ (parseMethodDescriptor yX12_placed.desc).map (fun d => d.parameters.length) = some 2 := by decide +kernel
theorem dd_X12_write : yX12_write.cls ≠ "java/lang/invoke/MethodHandle" ∧ yX12_write.cls ≠ "java/lang/invoke/VarHandle" ∧ (parseMethodDescriptor yX12_write.desc).map (fun d => d.parameters.length) = some 3 := by decide +kernel
theorem dd_X12_read : yX12_read.cls ≠ "java/lang/invoke/MethodHandle" ∧ yX12_read.cls ≠ "java/lang/invoke/VarHandle" ∧ (parseMethodDescriptor yX12_read.desc).map (fun d => d.parameters.length) = some 2 := by decide +kernel
theorem dd_X12_pour : yX12_pour.cls ≠ "java/lang/invoke/MethodHandle" ∧ yX12_pour.cls ≠ "java/lang/invoke/VarHandle" ∧ (parseMethodDescriptor yX12_pour.desc).map (fun d => d.parameters.length) = some 5 := by decide +kernel
theorem dd_X12_isTray : yX12_isTray.cls ≠ "java/lang/invoke/MethodHandle" ∧ yX12_isTray.cls ≠ "java/lang/invoke/VarHandle" ∧ (parseMethodDescriptor yX12_isTray.desc).map (fun d => d.parameters.length) = some 1 := by decide +kernel
theorem dd_X12_has : yX12_has.cls ≠ "java/lang/invoke/MethodHandle" ∧ yX12_has.cls ≠ "java/lang/invoke/VarHandle" ∧ (parseMethodDescriptor yX12_has.desc).map (fun d => d.parameters.length) = some 2 := by decide +kernel
theorem dd_X12_sizeOf : yX12_sizeOf.cls ≠ "java/lang/invoke/MethodHandle" ∧ yX12_sizeOf.cls ≠ "java/lang/invoke/VarHandle" ∧ (parseMethodDescriptor yX12_sizeOf.desc).map (fun d => d.parameters.length) = some 1 := by decide +kernel
theorem dd_X12_look2 : yX12_look2.cls ≠ "java/lang/invoke/MethodHandle" ∧ yX12_look2.cls ≠ "java/lang/invoke/VarHandle" ∧ (parseMethodDescriptor yX12_look2.desc).map (fun d => d.parameters.length) = some 1 := by decide +kernel
theorem dd_X12_isLetter : yX12_isLetter.cls ≠ "java/lang/invoke/MethodHandle" ∧ yX12_isLetter.cls ≠ "java/lang/invoke/VarHandle" ∧ (parseMethodDescriptor yX12_isLetter.desc).map (fun d => d.parameters.length) = some 1 := by decide +kernel
theorem dd_X12_isDigit : yX12_isDigit.cls ≠ "java/lang/invoke/MethodHandle" ∧ yX12_isDigit.cls ≠ "java/lang/invoke/VarHandle" ∧ (parseMethodDescriptor yX12_isDigit.desc).map (fun d => d.parameters.length) = some 1 := by decide +kernel
theorem dd_X12_isSignByte : yX12_isSignByte.cls ≠ "java/lang/invoke/MethodHandle" ∧ yX12_isSignByte.cls ≠ "java/lang/invoke/VarHandle" ∧ (parseMethodDescriptor yX12_isSignByte.desc).map (fun d => d.parameters.length) = some 1 := by decide +kernel
theorem dd_X12_advance : yX12_advance.cls ≠ "java/lang/invoke/MethodHandle" ∧ yX12_advance.cls ≠ "java/lang/invoke/VarHandle" ∧ (parseMethodDescriptor yX12_advance.desc).map (fun d => d.parameters.length) = some 0 := by decide +kernel
theorem dd_X12_isSign : yX12_isSign.cls ≠ "java/lang/invoke/MethodHandle" ∧ yX12_isSign.cls ≠ "java/lang/invoke/VarHandle" ∧ (parseMethodDescriptor yX12_isSign.desc).map (fun d => d.parameters.length) = some 1 := by decide +kernel
theorem dd_X12_spelled : yX12_spelled.cls ≠ "java/lang/invoke/MethodHandle" ∧ yX12_spelled.cls ≠ "java/lang/invoke/VarHandle" ∧ (parseMethodDescriptor yX12_spelled.desc).map (fun d => d.parameters.length) = some 6 := by decide +kernel
theorem dd_X12_isWord : yX12_isWord.cls ≠ "java/lang/invoke/MethodHandle" ∧ yX12_isWord.cls ≠ "java/lang/invoke/VarHandle" ∧ (parseMethodDescriptor yX12_isWord.desc).map (fun d => d.parameters.length) = some 1 := by decide +kernel
theorem dd_X12_isThing : yX12_isThing.cls ≠ "java/lang/invoke/MethodHandle" ∧ yX12_isThing.cls ≠ "java/lang/invoke/VarHandle" ∧ (parseMethodDescriptor yX12_isThing.desc).map (fun d => d.parameters.length) = some 0 := by decide +kernel
theorem dd_X12_isWorth : yX12_isWorth.cls ≠ "java/lang/invoke/MethodHandle" ∧ yX12_isWorth.cls ≠ "java/lang/invoke/VarHandle" ∧ (parseMethodDescriptor yX12_isWorth.desc).map (fun d => d.parameters.length) = some 0 := by decide +kernel
theorem dd_X12_isExemptWord : yX12_isExemptWord.cls ≠ "java/lang/invoke/MethodHandle" ∧ yX12_isExemptWord.cls ≠ "java/lang/invoke/VarHandle" ∧ (parseMethodDescriptor yX12_isExemptWord.desc).map (fun d => d.parameters.length) = some 0 := by decide +kernel
theorem dd_X12_isMakes : yX12_isMakes.cls ≠ "java/lang/invoke/MethodHandle" ∧ yX12_isMakes.cls ≠ "java/lang/invoke/VarHandle" ∧ (parseMethodDescriptor yX12_isMakes.desc).map (fun d => d.parameters.length) = some 0 := by decide +kernel
theorem dd_X12_isFrom : yX12_isFrom.cls ≠ "java/lang/invoke/MethodHandle" ∧ yX12_isFrom.cls ≠ "java/lang/invoke/VarHandle" ∧ (parseMethodDescriptor yX12_isFrom.desc).map (fun d => d.parameters.length) = some 0 := by decide +kernel
theorem dd_X12_isWork : yX12_isWork.cls ≠ "java/lang/invoke/MethodHandle" ∧ yX12_isWork.cls ≠ "java/lang/invoke/VarHandle" ∧ (parseMethodDescriptor yX12_isWork.desc).map (fun d => d.parameters.length) = some 0 := by decide +kernel
theorem dd_X12_isNeeds : yX12_isNeeds.cls ≠ "java/lang/invoke/MethodHandle" ∧ yX12_isNeeds.cls ≠ "java/lang/invoke/VarHandle" ∧ (parseMethodDescriptor yX12_isNeeds.desc).map (fun d => d.parameters.length) = some 0 := by decide +kernel
theorem dd_X12_isVoter : yX12_isVoter.cls ≠ "java/lang/invoke/MethodHandle" ∧ yX12_isVoter.cls ≠ "java/lang/invoke/VarHandle" ∧ (parseMethodDescriptor yX12_isVoter.desc).map (fun d => d.parameters.length) = some 0 := by decide +kernel
theorem dd_X12_isHates : yX12_isHates.cls ≠ "java/lang/invoke/MethodHandle" ∧ yX12_isHates.cls ≠ "java/lang/invoke/VarHandle" ∧ (parseMethodDescriptor yX12_isHates.desc).map (fun d => d.parameters.length) = some 0 := by decide +kernel
theorem dd_X12_isAhead : yX12_isAhead.cls ≠ "java/lang/invoke/MethodHandle" ∧ yX12_isAhead.cls ≠ "java/lang/invoke/VarHandle" ∧ (parseMethodDescriptor yX12_isAhead.desc).map (fun d => d.parameters.length) = some 0 := by decide +kernel
theorem dd_X12_isLaw : yX12_isLaw.cls ≠ "java/lang/invoke/MethodHandle" ∧ yX12_isLaw.cls ≠ "java/lang/invoke/VarHandle" ∧ (parseMethodDescriptor yX12_isLaw.desc).map (fun d => d.parameters.length) = some 0 := by decide +kernel
theorem dd_X12_stepWord : yX12_stepWord.cls ≠ "java/lang/invoke/MethodHandle" ∧ yX12_stepWord.cls ≠ "java/lang/invoke/VarHandle" ∧ (parseMethodDescriptor yX12_stepWord.desc).map (fun d => d.parameters.length) = some 0 := by decide +kernel
theorem dd_X12_testWord : yX12_testWord.cls ≠ "java/lang/invoke/MethodHandle" ∧ yX12_testWord.cls ≠ "java/lang/invoke/VarHandle" ∧ (parseMethodDescriptor yX12_testWord.desc).map (fun d => d.parameters.length) = some 0 := by decide +kernel
theorem dd_X12_isEnd : yX12_isEnd.cls ≠ "java/lang/invoke/MethodHandle" ∧ yX12_isEnd.cls ≠ "java/lang/invoke/VarHandle" ∧ (parseMethodDescriptor yX12_isEnd.desc).map (fun d => d.parameters.length) = some 0 := by decide +kernel
theorem dd_X12_isKept : yX12_isKept.cls ≠ "java/lang/invoke/MethodHandle" ∧ yX12_isKept.cls ≠ "java/lang/invoke/VarHandle" ∧ (parseMethodDescriptor yX12_isKept.desc).map (fun d => d.parameters.length) = some 0 := by decide +kernel
theorem dd_X12_isName : yX12_isName.cls ≠ "java/lang/invoke/MethodHandle" ∧ yX12_isName.cls ≠ "java/lang/invoke/VarHandle" ∧ (parseMethodDescriptor yX12_isName.desc).map (fun d => d.parameters.length) = some 0 := by decide +kernel
theorem dd_X12_fail : yX12_fail.cls ≠ "java/lang/invoke/MethodHandle" ∧ yX12_fail.cls ≠ "java/lang/invoke/VarHandle" ∧ (parseMethodDescriptor yX12_fail.desc).map (fun d => d.parameters.length) = some 2 := by decide +kernel
theorem dd_X12_amiss : yX12_amiss.cls ≠ "java/lang/invoke/MethodHandle" ∧ yX12_amiss.cls ≠ "java/lang/invoke/VarHandle" ∧ (parseMethodDescriptor yX12_amiss.desc).map (fun d => d.parameters.length) = some 0 := by decide +kernel
theorem dd_X12_must : yX12_must.cls ≠ "java/lang/invoke/MethodHandle" ∧ yX12_must.cls ≠ "java/lang/invoke/VarHandle" ∧ (parseMethodDescriptor yX12_must.desc).map (fun d => d.parameters.length) = some 1 := by decide +kernel
theorem dd_X12_count : yX12_count.cls ≠ "java/lang/invoke/MethodHandle" ∧ yX12_count.cls ≠ "java/lang/invoke/VarHandle" ∧ (parseMethodDescriptor yX12_count.desc).map (fun d => d.parameters.length) = some 2 := by decide +kernel
theorem dd_X12_lay : yX12_lay.cls ≠ "java/lang/invoke/MethodHandle" ∧ yX12_lay.cls ≠ "java/lang/invoke/VarHandle" ∧ (parseMethodDescriptor yX12_lay.desc).map (fun d => d.parameters.length) = some 1 := by decide +kernel
theorem dd_X12_feed : yX12_feed.cls ≠ "java/lang/invoke/MethodHandle" ∧ yX12_feed.cls ≠ "java/lang/invoke/VarHandle" ∧ (parseMethodDescriptor yX12_feed.desc).map (fun d => d.parameters.length) = some 5 := by decide +kernel
theorem dd_X12_starts : yX12_starts.cls ≠ "java/lang/invoke/MethodHandle" ∧ yX12_starts.cls ≠ "java/lang/invoke/VarHandle" ∧ (parseMethodDescriptor yX12_starts.desc).map (fun d => d.parameters.length) = some 2 := by decide +kernel
theorem dd_X12_isWell : yX12_isWell.cls ≠ "java/lang/invoke/MethodHandle" ∧ yX12_isWell.cls ≠ "java/lang/invoke/VarHandle" ∧ (parseMethodDescriptor yX12_isWell.desc).map (fun d => d.parameters.length) = some 0 := by decide +kernel
theorem dd_X12_fault : yX12_fault.cls ≠ "java/lang/invoke/MethodHandle" ∧ yX12_fault.cls ≠ "java/lang/invoke/VarHandle" ∧ (parseMethodDescriptor yX12_fault.desc).map (fun d => d.parameters.length) = some 1 := by decide +kernel
theorem dd_X12_fromOf : yX12_fromOf.cls ≠ "java/lang/invoke/MethodHandle" ∧ yX12_fromOf.cls ≠ "java/lang/invoke/VarHandle" ∧ (parseMethodDescriptor yX12_fromOf.desc).map (fun d => d.parameters.length) = some 1 := by decide +kernel
theorem dd_X12_manyOf : yX12_manyOf.cls ≠ "java/lang/invoke/MethodHandle" ∧ yX12_manyOf.cls ≠ "java/lang/invoke/VarHandle" ∧ (parseMethodDescriptor yX12_manyOf.desc).map (fun d => d.parameters.length) = some 1 := by decide +kernel
theorem dd_X12_named : yX12_named.cls ≠ "java/lang/invoke/MethodHandle" ∧ yX12_named.cls ≠ "java/lang/invoke/VarHandle" ∧ (parseMethodDescriptor yX12_named.desc).map (fun d => d.parameters.length) = some 2 := by decide +kernel
theorem dd_X12_readNew : yX12_readNew.cls ≠ "java/lang/invoke/MethodHandle" ∧ yX12_readNew.cls ≠ "java/lang/invoke/VarHandle" ∧ (parseMethodDescriptor yX12_readNew.desc).map (fun d => d.parameters.length) = some 2 := by decide +kernel
theorem dd_X12_readTold : yX12_readTold.cls ≠ "java/lang/invoke/MethodHandle" ∧ yX12_readTold.cls ≠ "java/lang/invoke/VarHandle" ∧ (parseMethodDescriptor yX12_readTold.desc).map (fun d => d.parameters.length) = some 3 := by decide +kernel
theorem dd_X12_readThings : yX12_readThings.cls ≠ "java/lang/invoke/MethodHandle" ∧ yX12_readThings.cls ≠ "java/lang/invoke/VarHandle" ∧ (parseMethodDescriptor yX12_readThings.desc).map (fun d => d.parameters.length) = some 1 := by decide +kernel
theorem dd_X12_readThing : yX12_readThing.cls ≠ "java/lang/invoke/MethodHandle" ∧ yX12_readThing.cls ≠ "java/lang/invoke/VarHandle" ∧ (parseMethodDescriptor yX12_readThing.desc).map (fun d => d.parameters.length) = some 0 := by decide +kernel
theorem dd_X12_readMakes : yX12_readMakes.cls ≠ "java/lang/invoke/MethodHandle" ∧ yX12_readMakes.cls ≠ "java/lang/invoke/VarHandle" ∧ (parseMethodDescriptor yX12_readMakes.desc).map (fun d => d.parameters.length) = some 0 := by decide +kernel
theorem dd_X12_readWork : yX12_readWork.cls ≠ "java/lang/invoke/MethodHandle" ∧ yX12_readWork.cls ≠ "java/lang/invoke/VarHandle" ∧ (parseMethodDescriptor yX12_readWork.desc).map (fun d => d.parameters.length) = some 0 := by decide +kernel
theorem dd_X12_readVoter : yX12_readVoter.cls ≠ "java/lang/invoke/MethodHandle" ∧ yX12_readVoter.cls ≠ "java/lang/invoke/VarHandle" ∧ (parseMethodDescriptor yX12_readVoter.desc).map (fun d => d.parameters.length) = some 0 := by decide +kernel
theorem dd_X12_readHates : yX12_readHates.cls ≠ "java/lang/invoke/MethodHandle" ∧ yX12_readHates.cls ≠ "java/lang/invoke/VarHandle" ∧ (parseMethodDescriptor yX12_readHates.desc).map (fun d => d.parameters.length) = some 0 := by decide +kernel
theorem dd_X12_readAhead : yX12_readAhead.cls ≠ "java/lang/invoke/MethodHandle" ∧ yX12_readAhead.cls ≠ "java/lang/invoke/VarHandle" ∧ (parseMethodDescriptor yX12_readAhead.desc).map (fun d => d.parameters.length) = some 0 := by decide +kernel
theorem dd_X12_readLaw : yX12_readLaw.cls ≠ "java/lang/invoke/MethodHandle" ∧ yX12_readLaw.cls ≠ "java/lang/invoke/VarHandle" ∧ (parseMethodDescriptor yX12_readLaw.desc).map (fun d => d.parameters.length) = some 0 := by decide +kernel
theorem dd_X12_copy : yX12_copy.cls ≠ "java/lang/invoke/MethodHandle" ∧ yX12_copy.cls ≠ "java/lang/invoke/VarHandle" ∧ (parseMethodDescriptor yX12_copy.desc).map (fun d => d.parameters.length) = some 2 := by decide +kernel
theorem dd_X12_city : yX12_city.cls ≠ "java/lang/invoke/MethodHandle" ∧ yX12_city.cls ≠ "java/lang/invoke/VarHandle" ∧ (parseMethodDescriptor yX12_city.desc).map (fun d => d.parameters.length) = some 1 := by decide +kernel
theorem dd_X12_readTest : yX12_readTest.cls ≠ "java/lang/invoke/MethodHandle" ∧ yX12_readTest.cls ≠ "java/lang/invoke/VarHandle" ∧ (parseMethodDescriptor yX12_readTest.desc).map (fun d => d.parameters.length) = some 1 := by decide +kernel
theorem dd_X12_readRest : yX12_readRest.cls ≠ "java/lang/invoke/MethodHandle" ∧ yX12_readRest.cls ≠ "java/lang/invoke/VarHandle" ∧ (parseMethodDescriptor yX12_readRest.desc).map (fun d => d.parameters.length) = some 1 := by decide +kernel
theorem dd_X12_readStep : yX12_readStep.cls ≠ "java/lang/invoke/MethodHandle" ∧ yX12_readStep.cls ≠ "java/lang/invoke/VarHandle" ∧ (parseMethodDescriptor yX12_readStep.desc).map (fun d => d.parameters.length) = some 1 := by decide +kernel
theorem dd_X12_centuries : yX12_centuries.cls ≠ "java/lang/invoke/MethodHandle" ∧ yX12_centuries.cls ≠ "java/lang/invoke/VarHandle" ∧ (parseMethodDescriptor yX12_centuries.desc).map (fun d => d.parameters.length) = some 1 := by decide +kernel
theorem dd_X12_isThingAt : yX12_isThingAt.cls ≠ "java/lang/invoke/MethodHandle" ∧ yX12_isThingAt.cls ≠ "java/lang/invoke/VarHandle" ∧ (parseMethodDescriptor yX12_isThingAt.desc).map (fun d => d.parameters.length) = some 1 := by decide +kernel
theorem dd_X12_isWorkAt : yX12_isWorkAt.cls ≠ "java/lang/invoke/MethodHandle" ∧ yX12_isWorkAt.cls ≠ "java/lang/invoke/VarHandle" ∧ (parseMethodDescriptor yX12_isWorkAt.desc).map (fun d => d.parameters.length) = some 1 := by decide +kernel
theorem dd_X12_isVoterAt : yX12_isVoterAt.cls ≠ "java/lang/invoke/MethodHandle" ∧ yX12_isVoterAt.cls ≠ "java/lang/invoke/VarHandle" ∧ (parseMethodDescriptor yX12_isVoterAt.desc).map (fun d => d.parameters.length) = some 1 := by decide +kernel
theorem dd_X12_allThings : yX12_allThings.cls ≠ "java/lang/invoke/MethodHandle" ∧ yX12_allThings.cls ≠ "java/lang/invoke/VarHandle" ∧ (parseMethodDescriptor yX12_allThings.desc).map (fun d => d.parameters.length) = some 0 := by decide +kernel
theorem dd_X12_isSet : yX12_isSet.cls ≠ "java/lang/invoke/MethodHandle" ∧ yX12_isSet.cls ≠ "java/lang/invoke/VarHandle" ∧ (parseMethodDescriptor yX12_isSet.desc).map (fun d => d.parameters.length) = some 1 := by decide +kernel
theorem dd_X12_madeThings : yX12_madeThings.cls ≠ "java/lang/invoke/MethodHandle" ∧ yX12_madeThings.cls ≠ "java/lang/invoke/VarHandle" ∧ (parseMethodDescriptor yX12_madeThings.desc).map (fun d => d.parameters.length) = some 0 := by decide +kernel
theorem dd_X12_standingBy : yX12_standingBy.cls ≠ "java/lang/invoke/MethodHandle" ∧ yX12_standingBy.cls ≠ "java/lang/invoke/VarHandle" ∧ (parseMethodDescriptor yX12_standingBy.desc).map (fun d => d.parameters.length) = some 2 := by decide +kernel
theorem dd_X12_standing : yX12_standing.cls ≠ "java/lang/invoke/MethodHandle" ∧ yX12_standing.cls ≠ "java/lang/invoke/VarHandle" ∧ (parseMethodDescriptor yX12_standing.desc).map (fun d => d.parameters.length) = some 1 := by decide +kernel
theorem dd_X12_now : yX12_now.cls ≠ "java/lang/invoke/MethodHandle" ∧ yX12_now.cls ≠ "java/lang/invoke/VarHandle" ∧ (parseMethodDescriptor yX12_now.desc).map (fun d => d.parameters.length) = some 0 := by decide +kernel
theorem dd_X12_doneBy : yX12_doneBy.cls ≠ "java/lang/invoke/MethodHandle" ∧ yX12_doneBy.cls ≠ "java/lang/invoke/VarHandle" ∧ (parseMethodDescriptor yX12_doneBy.desc).map (fun d => d.parameters.length) = some 1 := by decide +kernel
theorem dd_X12_worthOf : yX12_worthOf.cls ≠ "java/lang/invoke/MethodHandle" ∧ yX12_worthOf.cls ≠ "java/lang/invoke/VarHandle" ∧ (parseMethodDescriptor yX12_worthOf.desc).map (fun d => d.parameters.length) = some 1 := by decide +kernel
theorem dd_X12_many : yX12_many.cls ≠ "java/lang/invoke/MethodHandle" ∧ yX12_many.cls ≠ "java/lang/invoke/VarHandle" ∧ (parseMethodDescriptor yX12_many.desc).map (fun d => d.parameters.length) = some 1 := by decide +kernel
theorem dd_X12_thing : yX12_thing.cls ≠ "java/lang/invoke/MethodHandle" ∧ yX12_thing.cls ≠ "java/lang/invoke/VarHandle" ∧ (parseMethodDescriptor yX12_thing.desc).map (fun d => d.parameters.length) = some 2 := by decide +kernel
theorem dd_X12_making : yX12_making.cls ≠ "java/lang/invoke/MethodHandle" ∧ yX12_making.cls ≠ "java/lang/invoke/VarHandle" ∧ (parseMethodDescriptor yX12_making.desc).map (fun d => d.parameters.length) = some 2 := by decide +kernel
theorem dd_X12_needs : yX12_needs.cls ≠ "java/lang/invoke/MethodHandle" ∧ yX12_needs.cls ≠ "java/lang/invoke/VarHandle" ∧ (parseMethodDescriptor yX12_needs.desc).map (fun d => d.parameters.length) = some 1 := by decide +kernel
theorem dd_X12_hate : yX12_hate.cls ≠ "java/lang/invoke/MethodHandle" ∧ yX12_hate.cls ≠ "java/lang/invoke/VarHandle" ∧ (parseMethodDescriptor yX12_hate.desc).map (fun d => d.parameters.length) = some 2 := by decide +kernel
theorem dd_X12_copyWorth : yX12_copyWorth.cls ≠ "java/lang/invoke/MethodHandle" ∧ yX12_copyWorth.cls ≠ "java/lang/invoke/VarHandle" ∧ (parseMethodDescriptor yX12_copyWorth.desc).map (fun d => d.parameters.length) = some 1 := by decide +kernel
theorem dd_X12_counts : yX12_counts.cls ≠ "java/lang/invoke/MethodHandle" ∧ yX12_counts.cls ≠ "java/lang/invoke/VarHandle" ∧ (parseMethodDescriptor yX12_counts.desc).map (fun d => d.parameters.length) = some 2 := by decide +kernel
theorem dd_X12_sums : yX12_sums.cls ≠ "java/lang/invoke/MethodHandle" ∧ yX12_sums.cls ≠ "java/lang/invoke/VarHandle" ∧ (parseMethodDescriptor yX12_sums.desc).map (fun d => d.parameters.length) = some 1 := by decide +kernel
theorem dd_X12_mostVotes : yX12_mostVotes.cls ≠ "java/lang/invoke/MethodHandle" ∧ yX12_mostVotes.cls ≠ "java/lang/invoke/VarHandle" ∧ (parseMethodDescriptor yX12_mostVotes.desc).map (fun d => d.parameters.length) = some 0 := by decide +kernel
theorem dd_X12_lastOne : yX12_lastOne.cls ≠ "java/lang/invoke/MethodHandle" ∧ yX12_lastOne.cls ≠ "java/lang/invoke/VarHandle" ∧ (parseMethodDescriptor yX12_lastOne.desc).map (fun d => d.parameters.length) = some 1 := by decide +kernel
theorem dd_X12_namedBy : yX12_namedBy.cls ≠ "java/lang/invoke/MethodHandle" ∧ yX12_namedBy.cls ≠ "java/lang/invoke/VarHandle" ∧ (parseMethodDescriptor yX12_namedBy.desc).map (fun d => d.parameters.length) = some 2 := by decide +kernel
theorem dd_X12_voted : yX12_voted.cls ≠ "java/lang/invoke/MethodHandle" ∧ yX12_voted.cls ≠ "java/lang/invoke/VarHandle" ∧ (parseMethodDescriptor yX12_voted.desc).map (fun d => d.parameters.length) = some 2 := by decide +kernel
theorem dd_X12_inVote : yX12_inVote.cls ≠ "java/lang/invoke/MethodHandle" ∧ yX12_inVote.cls ≠ "java/lang/invoke/VarHandle" ∧ (parseMethodDescriptor yX12_inVote.desc).map (fun d => d.parameters.length) = some 0 := by decide +kernel
theorem dd_X12_vote : yX12_vote.cls ≠ "java/lang/invoke/MethodHandle" ∧ yX12_vote.cls ≠ "java/lang/invoke/VarHandle" ∧ (parseMethodDescriptor yX12_vote.desc).map (fun d => d.parameters.length) = some 0 := by decide +kernel
theorem dd_X12_votes : yX12_votes.cls ≠ "java/lang/invoke/MethodHandle" ∧ yX12_votes.cls ≠ "java/lang/invoke/VarHandle" ∧ (parseMethodDescriptor yX12_votes.desc).map (fun d => d.parameters.length) = some 1 := by decide +kernel
theorem dd_X12_voteBy : yX12_voteBy.cls ≠ "java/lang/invoke/MethodHandle" ∧ yX12_voteBy.cls ≠ "java/lang/invoke/VarHandle" ∧ (parseMethodDescriptor yX12_voteBy.desc).map (fun d => d.parameters.length) = some 1 := by decide +kernel
theorem dd_X12_sway : yX12_sway.cls ≠ "java/lang/invoke/MethodHandle" ∧ yX12_sway.cls ≠ "java/lang/invoke/VarHandle" ∧ (parseMethodDescriptor yX12_sway.desc).map (fun d => d.parameters.length) = some 1 := by decide +kernel
theorem dd_X12_goesYear : yX12_goesYear.cls ≠ "java/lang/invoke/MethodHandle" ∧ yX12_goesYear.cls ≠ "java/lang/invoke/VarHandle" ∧ (parseMethodDescriptor yX12_goesYear.desc).map (fun d => d.parameters.length) = some 0 := by decide +kernel
theorem dd_X12_year : yX12_year.cls ≠ "java/lang/invoke/MethodHandle" ∧ yX12_year.cls ≠ "java/lang/invoke/VarHandle" ∧ (parseMethodDescriptor yX12_year.desc).map (fun d => d.parameters.length) = some 1 := by decide +kernel
theorem dd_X12_canUnmake : yX12_canUnmake.cls ≠ "java/lang/invoke/MethodHandle" ∧ yX12_canUnmake.cls ≠ "java/lang/invoke/VarHandle" ∧ (parseMethodDescriptor yX12_canUnmake.desc).map (fun d => d.parameters.length) = some 1 := by decide +kernel
theorem dd_X12_unmake : yX12_unmake.cls ≠ "java/lang/invoke/MethodHandle" ∧ yX12_unmake.cls ≠ "java/lang/invoke/VarHandle" ∧ (parseMethodDescriptor yX12_unmake.desc).map (fun d => d.parameters.length) = some 1 := by decide +kernel
theorem dd_X12_remake : yX12_remake.cls ≠ "java/lang/invoke/MethodHandle" ∧ yX12_remake.cls ≠ "java/lang/invoke/VarHandle" ∧ (parseMethodDescriptor yX12_remake.desc).map (fun d => d.parameters.length) = some 1 := by decide +kernel
theorem dd_X12_exempt : yX12_exempt.cls ≠ "java/lang/invoke/MethodHandle" ∧ yX12_exempt.cls ≠ "java/lang/invoke/VarHandle" ∧ (parseMethodDescriptor yX12_exempt.desc).map (fun d => d.parameters.length) = some 2 := by decide +kernel
theorem dd_X12_grudge : yX12_grudge.cls ≠ "java/lang/invoke/MethodHandle" ∧ yX12_grudge.cls ≠ "java/lang/invoke/VarHandle" ∧ (parseMethodDescriptor yX12_grudge.desc).map (fun d => d.parameters.length) = some 3 := by decide +kernel
theorem dd_X12_rule : yX12_rule.cls ≠ "java/lang/invoke/MethodHandle" ∧ yX12_rule.cls ≠ "java/lang/invoke/VarHandle" ∧ (parseMethodDescriptor yX12_rule.desc).map (fun d => d.parameters.length) = some 1 := by decide +kernel
theorem dd_X12_fallsWith : yX12_fallsWith.cls ≠ "java/lang/invoke/MethodHandle" ∧ yX12_fallsWith.cls ≠ "java/lang/invoke/VarHandle" ∧ (parseMethodDescriptor yX12_fallsWith.desc).map (fun d => d.parameters.length) = some 1 := by decide +kernel
theorem dd_X12_whyNoFall : yX12_whyNoFall.cls ≠ "java/lang/invoke/MethodHandle" ∧ yX12_whyNoFall.cls ≠ "java/lang/invoke/VarHandle" ∧ (parseMethodDescriptor yX12_whyNoFall.desc).map (fun d => d.parameters.length) = some 1 := by decide +kernel
theorem dd_X12_falls : yX12_falls.cls ≠ "java/lang/invoke/MethodHandle" ∧ yX12_falls.cls ≠ "java/lang/invoke/VarHandle" ∧ (parseMethodDescriptor yX12_falls.desc).map (fun d => d.parameters.length) = some 1 := by decide +kernel
theorem dd_X12_loss : yX12_loss.cls ≠ "java/lang/invoke/MethodHandle" ∧ yX12_loss.cls ≠ "java/lang/invoke/VarHandle" ∧ (parseMethodDescriptor yX12_loss.desc).map (fun d => d.parameters.length) = some 1 := by decide +kernel
theorem dd_X12_keystone : yX12_keystone.cls ≠ "java/lang/invoke/MethodHandle" ∧ yX12_keystone.cls ≠ "java/lang/invoke/VarHandle" ∧ (parseMethodDescriptor yX12_keystone.desc).map (fun d => d.parameters.length) = some 0 := by decide +kernel
theorem dd_X12_after : yX12_after.cls ≠ "java/lang/invoke/MethodHandle" ∧ yX12_after.cls ≠ "java/lang/invoke/VarHandle" ∧ (parseMethodDescriptor yX12_after.desc).map (fun d => d.parameters.length) = some 2 := by decide +kernel
theorem dd_X12_yearWithout : yX12_yearWithout.cls ≠ "java/lang/invoke/MethodHandle" ∧ yX12_yearWithout.cls ≠ "java/lang/invoke/VarHandle" ∧ (parseMethodDescriptor yX12_yearWithout.desc).map (fun d => d.parameters.length) = some 1 := by decide +kernel
theorem dd_X12_goneBy : yX12_goneBy.cls ≠ "java/lang/invoke/MethodHandle" ∧ yX12_goneBy.cls ≠ "java/lang/invoke/VarHandle" ∧ (parseMethodDescriptor yX12_goneBy.desc).map (fun d => d.parameters.length) = some 1 := by decide +kernel
theorem dd_X12_ends : yX12_ends.cls ≠ "java/lang/invoke/MethodHandle" ∧ yX12_ends.cls ≠ "java/lang/invoke/VarHandle" ∧ (parseMethodDescriptor yX12_ends.desc).map (fun d => d.parameters.length) = some 1 := by decide +kernel
theorem dd_X12_later : yX12_later.cls ≠ "java/lang/invoke/MethodHandle" ∧ yX12_later.cls ≠ "java/lang/invoke/VarHandle" ∧ (parseMethodDescriptor yX12_later.desc).map (fun d => d.parameters.length) = some 1 := by decide +kernel
theorem dd_X12_isKeptBy : yX12_isKeptBy.cls ≠ "java/lang/invoke/MethodHandle" ∧ yX12_isKeptBy.cls ≠ "java/lang/invoke/VarHandle" ∧ (parseMethodDescriptor yX12_isKeptBy.desc).map (fun d => d.parameters.length) = some 3 := by decide +kernel
theorem dd_X12_keeping : yX12_keeping.cls ≠ "java/lang/invoke/MethodHandle" ∧ yX12_keeping.cls ≠ "java/lang/invoke/VarHandle" ∧ (parseMethodDescriptor yX12_keeping.desc).map (fun d => d.parameters.length) = some 2 := by decide +kernel
theorem dd_X12_whyNoKeep : yX12_whyNoKeep.cls ≠ "java/lang/invoke/MethodHandle" ∧ yX12_whyNoKeep.cls ≠ "java/lang/invoke/VarHandle" ∧ (parseMethodDescriptor yX12_whyNoKeep.desc).map (fun d => d.parameters.length) = some 2 := by decide +kernel
theorem dd_X12_keep : yX12_keep.cls ≠ "java/lang/invoke/MethodHandle" ∧ yX12_keep.cls ≠ "java/lang/invoke/VarHandle" ∧ (parseMethodDescriptor yX12_keep.desc).map (fun d => d.parameters.length) = some 2 := by decide +kernel
theorem dd_X12_keepSet : yX12_keepSet.cls ≠ "java/lang/invoke/MethodHandle" ∧ yX12_keepSet.cls ≠ "java/lang/invoke/VarHandle" ∧ (parseMethodDescriptor yX12_keepSet.desc).map (fun d => d.parameters.length) = some 2 := by decide +kernel
theorem dd_X12_striking : yX12_striking.cls ≠ "java/lang/invoke/MethodHandle" ∧ yX12_striking.cls ≠ "java/lang/invoke/VarHandle" ∧ (parseMethodDescriptor yX12_striking.desc).map (fun d => d.parameters.length) = some 1 := by decide +kernel
theorem dd_X12_strike : yX12_strike.cls ≠ "java/lang/invoke/MethodHandle" ∧ yX12_strike.cls ≠ "java/lang/invoke/VarHandle" ∧ (parseMethodDescriptor yX12_strike.desc).map (fun d => d.parameters.length) = some 1 := by decide +kernel
theorem dd_X12_strikeSet : yX12_strikeSet.cls ≠ "java/lang/invoke/MethodHandle" ∧ yX12_strikeSet.cls ≠ "java/lang/invoke/VarHandle" ∧ (parseMethodDescriptor yX12_strikeSet.desc).map (fun d => d.parameters.length) = some 1 := by decide +kernel
theorem dd_X12_orders : yX12_orders.cls ≠ "java/lang/invoke/MethodHandle" ∧ yX12_orders.cls ≠ "java/lang/invoke/VarHandle" ∧ (parseMethodDescriptor yX12_orders.desc).map (fun d => d.parameters.length) = some 4 := by decide +kernel
theorem dd_X12_agenda : yX12_agenda.cls ≠ "java/lang/invoke/MethodHandle" ∧ yX12_agenda.cls ≠ "java/lang/invoke/VarHandle" ∧ (parseMethodDescriptor yX12_agenda.desc).map (fun d => d.parameters.length) = some 1 := by decide +kernel
theorem dd_X12_agendaAt : yX12_agendaAt.cls ≠ "java/lang/invoke/MethodHandle" ∧ yX12_agendaAt.cls ≠ "java/lang/invoke/VarHandle" ∧ (parseMethodDescriptor yX12_agendaAt.desc).map (fun d => d.parameters.length) = some 1 := by decide +kernel
theorem dd_X12_plays : yX12_plays.cls ≠ "java/lang/invoke/MethodHandle" ∧ yX12_plays.cls ≠ "java/lang/invoke/VarHandle" ∧ (parseMethodDescriptor yX12_plays.desc).map (fun d => d.parameters.length) = some 5 := by decide +kernel
theorem dd_X12_whyNoGame : yX12_whyNoGame.cls ≠ "java/lang/invoke/MethodHandle" ∧ yX12_whyNoGame.cls ≠ "java/lang/invoke/VarHandle" ∧ (parseMethodDescriptor yX12_whyNoGame.desc).map (fun d => d.parameters.length) = some 2 := by decide +kernel
theorem dd_X12_game : yX12_game.cls ≠ "java/lang/invoke/MethodHandle" ∧ yX12_game.cls ≠ "java/lang/invoke/VarHandle" ∧ (parseMethodDescriptor yX12_game.desc).map (fun d => d.parameters.length) = some 2 := by decide +kernel
theorem dd_X12_firstMove : yX12_firstMove.cls ≠ "java/lang/invoke/MethodHandle" ∧ yX12_firstMove.cls ≠ "java/lang/invoke/VarHandle" ∧ (parseMethodDescriptor yX12_firstMove.desc).map (fun d => d.parameters.length) = some 2 := by decide +kernel
theorem dd_X12_makingsFor : yX12_makingsFor.cls ≠ "java/lang/invoke/MethodHandle" ∧ yX12_makingsFor.cls ≠ "java/lang/invoke/VarHandle" ∧ (parseMethodDescriptor yX12_makingsFor.desc).map (fun d => d.parameters.length) = some 1 := by decide +kernel
theorem dd_X12_again : yX12_again.cls ≠ "java/lang/invoke/MethodHandle" ∧ yX12_again.cls ≠ "java/lang/invoke/VarHandle" ∧ (parseMethodDescriptor yX12_again.desc).map (fun d => d.parameters.length) = some 1 := by decide +kernel
theorem dd_X12_againSet : yX12_againSet.cls ≠ "java/lang/invoke/MethodHandle" ∧ yX12_againSet.cls ≠ "java/lang/invoke/VarHandle" ∧ (parseMethodDescriptor yX12_againSet.desc).map (fun d => d.parameters.length) = some 1 := by decide +kernel
theorem dd_X12_wasIt : yX12_wasIt.cls ≠ "java/lang/invoke/MethodHandle" ∧ yX12_wasIt.cls ≠ "java/lang/invoke/VarHandle" ∧ (parseMethodDescriptor yX12_wasIt.desc).map (fun d => d.parameters.length) = some 1 := by decide +kernel
theorem dd_X12_laysFalls : yX12_laysFalls.cls ≠ "java/lang/invoke/MethodHandle" ∧ yX12_laysFalls.cls ≠ "java/lang/invoke/VarHandle" ∧ (parseMethodDescriptor yX12_laysFalls.desc).map (fun d => d.parameters.length) = some 1 := by decide +kernel
theorem dd_X12_tells : yX12_tells.cls ≠ "java/lang/invoke/MethodHandle" ∧ yX12_tells.cls ≠ "java/lang/invoke/VarHandle" ∧ (parseMethodDescriptor yX12_tells.desc).map (fun d => d.parameters.length) = some 1 := by decide +kernel
theorem dd_X12_looksFor : yX12_looksFor.cls ≠ "java/lang/invoke/MethodHandle" ∧ yX12_looksFor.cls ≠ "java/lang/invoke/VarHandle" ∧ (parseMethodDescriptor yX12_looksFor.desc).map (fun d => d.parameters.length) = some 1 := by decide +kernel
theorem dd_X12_sure : yX12_sure.cls ≠ "java/lang/invoke/MethodHandle" ∧ yX12_sure.cls ≠ "java/lang/invoke/VarHandle" ∧ (parseMethodDescriptor yX12_sure.desc).map (fun d => d.parameters.length) = some 1 := by decide +kernel
theorem dd_X12_countsHistories : yX12_countsHistories.cls ≠ "java/lang/invoke/MethodHandle" ∧ yX12_countsHistories.cls ≠ "java/lang/invoke/VarHandle" ∧ (parseMethodDescriptor yX12_countsHistories.desc).map (fun d => d.parameters.length) = some 0 := by decide +kernel
theorem dd_X12_histories : yX12_histories.cls ≠ "java/lang/invoke/MethodHandle" ∧ yX12_histories.cls ≠ "java/lang/invoke/VarHandle" ∧ (parseMethodDescriptor yX12_histories.desc).map (fun d => d.parameters.length) = some 0 := by decide +kernel
theorem dd_X12_firsts : yX12_firsts.cls ≠ "java/lang/invoke/MethodHandle" ∧ yX12_firsts.cls ≠ "java/lang/invoke/VarHandle" ∧ (parseMethodDescriptor yX12_firsts.desc).map (fun d => d.parameters.length) = some 0 := by decide +kernel
theorem dd_X12_clash : yX12_clash.cls ≠ "java/lang/invoke/MethodHandle" ∧ yX12_clash.cls ≠ "java/lang/invoke/VarHandle" ∧ (parseMethodDescriptor yX12_clash.desc).map (fun d => d.parameters.length) = some 0 := by decide +kernel
theorem dd_X12_aheadOdds : yX12_aheadOdds.cls ≠ "java/lang/invoke/MethodHandle" ∧ yX12_aheadOdds.cls ≠ "java/lang/invoke/VarHandle" ∧ (parseMethodDescriptor yX12_aheadOdds.desc).map (fun d => d.parameters.length) = some 2 := by decide +kernel
theorem dd_X12_draw : yX12_draw.cls ≠ "java/lang/invoke/MethodHandle" ∧ yX12_draw.cls ≠ "java/lang/invoke/VarHandle" ∧ (parseMethodDescriptor yX12_draw.desc).map (fun d => d.parameters.length) = some 1 := by decide +kernel
theorem dd_X12_missedYears : yX12_missedYears.cls ≠ "java/lang/invoke/MethodHandle" ∧ yX12_missedYears.cls ≠ "java/lang/invoke/VarHandle" ∧ (parseMethodDescriptor yX12_missedYears.desc).map (fun d => d.parameters.length) = some 1 := by decide +kernel
theorem dd_X12_isJoked : yX12_isJoked.cls ≠ "java/lang/invoke/MethodHandle" ∧ yX12_isJoked.cls ≠ "java/lang/invoke/VarHandle" ∧ (parseMethodDescriptor yX12_isJoked.desc).map (fun d => d.parameters.length) = some 0 := by decide +kernel
theorem dd_X12_does : yX12_does.cls ≠ "java/lang/invoke/MethodHandle" ∧ yX12_does.cls ≠ "java/lang/invoke/VarHandle" ∧ (parseMethodDescriptor yX12_does.desc).map (fun d => d.parameters.length) = some 1 := by decide +kernel
theorem dd_X12_isSo : yX12_isSo.cls ≠ "java/lang/invoke/MethodHandle" ∧ yX12_isSo.cls ≠ "java/lang/invoke/VarHandle" ∧ (parseMethodDescriptor yX12_isSo.desc).map (fun d => d.parameters.length) = some 1 := by decide +kernel
theorem dd_X12_doAll : yX12_doAll.cls ≠ "java/lang/invoke/MethodHandle" ∧ yX12_doAll.cls ≠ "java/lang/invoke/VarHandle" ∧ (parseMethodDescriptor yX12_doAll.desc).map (fun d => d.parameters.length) = some 2 := by decide +kernel
theorem dd_X12_doOne : yX12_doOne.cls ≠ "java/lang/invoke/MethodHandle" ∧ yX12_doOne.cls ≠ "java/lang/invoke/VarHandle" ∧ (parseMethodDescriptor yX12_doOne.desc).map (fun d => d.parameters.length) = some 1 := by decide +kernel
theorem dd_X12_runsCenturies : yX12_runsCenturies.cls ≠ "java/lang/invoke/MethodHandle" ∧ yX12_runsCenturies.cls ≠ "java/lang/invoke/VarHandle" ∧ (parseMethodDescriptor yX12_runsCenturies.desc).map (fun d => d.parameters.length) = some 1 := by decide +kernel
theorem dd_X12_live : yX12_live.cls ≠ "java/lang/invoke/MethodHandle" ∧ yX12_live.cls ≠ "java/lang/invoke/VarHandle" ∧ (parseMethodDescriptor yX12_live.desc).map (fun d => d.parameters.length) = some 1 := by decide +kernel
theorem dd_X12_lived : yX12_lived.cls ≠ "java/lang/invoke/MethodHandle" ∧ yX12_lived.cls ≠ "java/lang/invoke/VarHandle" ∧ (parseMethodDescriptor yX12_lived.desc).map (fun d => d.parameters.length) = some 1 := by decide +kernel
theorem dd_X12_mean : yX12_mean.cls ≠ "java/lang/invoke/MethodHandle" ∧ yX12_mean.cls ≠ "java/lang/invoke/VarHandle" ∧ (parseMethodDescriptor yX12_mean.desc).map (fun d => d.parameters.length) = some 2 := by decide +kernel
theorem dd_X12_mark : yX12_mark.cls ≠ "java/lang/invoke/MethodHandle" ∧ yX12_mark.cls ≠ "java/lang/invoke/VarHandle" ∧ (parseMethodDescriptor yX12_mark.desc).map (fun d => d.parameters.length) = some 0 := by decide +kernel
theorem dd_X12_back : yX12_back.cls ≠ "java/lang/invoke/MethodHandle" ∧ yX12_back.cls ≠ "java/lang/invoke/VarHandle" ∧ (parseMethodDescriptor yX12_back.desc).map (fun d => d.parameters.length) = some 0 := by decide +kernel
