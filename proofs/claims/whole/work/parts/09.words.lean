theorem k_0 : Jvm.Cond.selects "ConicDesk$Reader" ({ cls := "ConicDesk$Reader", name := "advance", desc := "(LConicDesk$Tape;)V" } : Jvm.MethodName) ({ cls := "ConicDesk$Reader", name := "advance", desc := "(LConicDesk$Tape;)V" } : Jvm.MethodName) ∈ lw_g := lw_m 0 (by decide +kernel) (by decide +kernel)
theorem k_1 : Jvm.Cond.selects "ConicDesk$Reader" ({ cls := "ConicDesk$Reader", name := "skipBlanks", desc := "(LConicDesk$Tape;)V" } : Jvm.MethodName) ({ cls := "ConicDesk$Reader", name := "skipBlanks", desc := "(LConicDesk$Tape;)V" } : Jvm.MethodName) ∈ lw_g := lw_m 1 (by decide +kernel) (by decide +kernel)
theorem k_2 : Jvm.Cond.selects "ConicDesk$Reader" ({ cls := "ConicDesk$Reader", name := "takeWord", desc := "(LConicDesk$Tape;)V" } : Jvm.MethodName) ({ cls := "ConicDesk$Reader", name := "takeWord", desc := "(LConicDesk$Tape;)V" } : Jvm.MethodName) ∈ lw_g := lw_m 2 (by decide +kernel) (by decide +kernel)
theorem k_3 : Jvm.Cond.selects "ConicDesk$Reader" ({ cls := "ConicDesk$Reader", name := "takeDigits", desc := "(LConicDesk$Tape;)V" } : Jvm.MethodName) ({ cls := "ConicDesk$Reader", name := "takeDigits", desc := "(LConicDesk$Tape;)V" } : Jvm.MethodName) ∈ lw_g := lw_m 3 (by decide +kernel) (by decide +kernel)
theorem k_4 : Jvm.Cond.selects "ConicDesk$Reader" ({ cls := "ConicDesk$Reader", name := "readLine", desc := "(LConicDesk$Tape;)Z" } : Jvm.MethodName) ({ cls := "ConicDesk$Reader", name := "readLine", desc := "(LConicDesk$Tape;)Z" } : Jvm.MethodName) ∈ lw_g := lw_m 4 (by decide +kernel) (by decide +kernel)
theorem k_5 : Jvm.Cond.selects "ConicDesk$Reader" ({ cls := "ConicDesk$Reader", name := "lineKind", desc := "(LConicDesk$Tape;)I" } : Jvm.MethodName) ({ cls := "ConicDesk$Reader", name := "lineKind", desc := "(LConicDesk$Tape;)I" } : Jvm.MethodName) ∈ lw_g := lw_m 5 (by decide +kernel) (by decide +kernel)
theorem k_6 : Jvm.Cond.selects "ConicDesk$Reader" ({ cls := "ConicDesk$Reader", name := "tokenIs", desc := "(LConicDesk$Tape;Ljava/lang/String;)Z" } : Jvm.MethodName) ({ cls := "ConicDesk$Reader", name := "tokenIs", desc := "(LConicDesk$Tape;Ljava/lang/String;)Z" } : Jvm.MethodName) ∈ lw_g := lw_m 6 (by decide +kernel) (by decide +kernel)
theorem k_7 : Jvm.Cond.selects "ConicDesk$Reader" ({ cls := "ConicDesk$Reader", name := "fail", desc := "(II)Z" } : Jvm.MethodName) ({ cls := "ConicDesk$Reader", name := "fail", desc := "(II)Z" } : Jvm.MethodName) ∈ lw_g := lw_m 7 (by decide +kernel) (by decide +kernel)
theorem k_8 : Jvm.Cond.selects "ConicDesk$Reader" ({ cls := "ConicDesk$Reader", name := "canBe", desc := "(II)Z" } : Jvm.MethodName) ({ cls := "ConicDesk$Reader", name := "canBe", desc := "(II)Z" } : Jvm.MethodName) ∈ lw_g := lw_m 8 (by decide +kernel) (by decide +kernel)
theorem k_9 : Jvm.Cond.selects "ConicDesk$Reader" ({ cls := "ConicDesk$Reader", name := "readSix", desc := "(LConicDesk$Tape;)Z" } : Jvm.MethodName) ({ cls := "ConicDesk$Reader", name := "readSix", desc := "(LConicDesk$Tape;)Z" } : Jvm.MethodName) ∈ lw_g := lw_m 9 (by decide +kernel) (by decide +kernel)
theorem k_10 : Jvm.Cond.selects "ConicDesk$Reader" ({ cls := "ConicDesk$Reader", name := "carryOut", desc := "(II)Z" } : Jvm.MethodName) ({ cls := "ConicDesk$Reader", name := "carryOut", desc := "(II)Z" } : Jvm.MethodName) ∈ lw_g := lw_m 10 (by decide +kernel) (by decide +kernel)
theorem k_11 : Jvm.Cond.selects "ConicDesk" ({ cls := "ConicDesk", name := "refuse", desc := "(II)I" } : Jvm.MethodName) ({ cls := "ConicDesk", name := "refuse", desc := "(II)I" } : Jvm.MethodName) ∈ lw_g := lw_m 11 (by decide +kernel) (by decide +kernel)
theorem k_12 : Jvm.Cond.selects "ConicDesk" ({ cls := "ConicDesk", name := "accept", desc := "()I" } : Jvm.MethodName) ({ cls := "ConicDesk", name := "accept", desc := "()I" } : Jvm.MethodName) ∈ lw_g := lw_m 12 (by decide +kernel) (by decide +kernel)
theorem k_13 : Jvm.Cond.selects "ConicDesk" ({ cls := "ConicDesk", name := "become", desc := "(ILConicDesk$Form;)I" } : Jvm.MethodName) ({ cls := "ConicDesk", name := "become", desc := "(ILConicDesk$Form;)I" } : Jvm.MethodName) ∈ lw_g := lw_m 13 (by decide +kernel) (by decide +kernel)
theorem k_14 : Jvm.Cond.selects "ConicDesk$Curve" ({ cls := "ConicDesk$Curve", name := "sideMinor", desc := "()I" } : Jvm.MethodName) ({ cls := "ConicDesk$Curve", name := "sideMinor", desc := "()I" } : Jvm.MethodName) ∈ lw_g := lw_m 14 (by decide +kernel) (by decide +kernel)
theorem k_15 : Jvm.Cond.selects "ConicDesk$Family" ({ cls := "ConicDesk$Family", name := "pass", desc := "()V" } : Jvm.MethodName) ({ cls := "ConicDesk$Family", name := "pass", desc := "()V" } : Jvm.MethodName) ∈ lw_g := lw_m 15 (by decide +kernel) (by decide +kernel)
theorem k_16 : Jvm.Cond.selects "ConicDesk$Family" ({ cls := "ConicDesk$Family", name := "firstOff", desc := "(LConicDesk$Triple;)I" } : Jvm.MethodName) ({ cls := "ConicDesk$Family", name := "firstOff", desc := "(LConicDesk$Triple;)I" } : Jvm.MethodName) ∈ lw_g := lw_m 16 (by decide +kernel) (by decide +kernel)
theorem k_17 : Jvm.Cond.selects "ConicDesk" ({ cls := "ConicDesk", name := "properConics", desc := "()I" } : Jvm.MethodName) ({ cls := "ConicDesk", name := "properConics", desc := "()I" } : Jvm.MethodName) ∈ lw_g := lw_m 17 (by decide +kernel) (by decide +kernel)
theorem k_18 : Jvm.Cond.selects "ConicDesk" ({ cls := "ConicDesk", name := "marksInLine", desc := "()I" } : Jvm.MethodName) ({ cls := "ConicDesk", name := "marksInLine", desc := "()I" } : Jvm.MethodName) ∈ lw_g := lw_m 18 (by decide +kernel) (by decide +kernel)
theorem k_19 : Jvm.Cond.selects "ConicDesk" ({ cls := "ConicDesk", name := "isInLine", desc := "(I)Z" } : Jvm.MethodName) ({ cls := "ConicDesk", name := "isInLine", desc := "(I)Z" } : Jvm.MethodName) ∈ lw_g := lw_m 19 (by decide +kernel) (by decide +kernel)
theorem k_20 : Jvm.Cond.selects "ConicDesk" ({ cls := "ConicDesk", name := "overFractionsOrKind", desc := "(I)I" } : Jvm.MethodName) ({ cls := "ConicDesk", name := "overFractionsOrKind", desc := "(I)I" } : Jvm.MethodName) ∈ lw_g := lw_m 20 (by decide +kernel) (by decide +kernel)
theorem k_21 : Jvm.Cond.selects "ConicDesk$Form" ({ cls := "ConicDesk$Form", name := "sortOfWhole", desc := "()I" } : Jvm.MethodName) ({ cls := "ConicDesk$Form", name := "sortOfWhole", desc := "()I" } : Jvm.MethodName) ∈ lw_g := lw_m 21 (by decide +kernel) (by decide +kernel)
theorem k_22 : Jvm.Cond.selects "ConicDesk$Form" ({ cls := "ConicDesk$Form", name := "sortOfFallen", desc := "()I" } : Jvm.MethodName) ({ cls := "ConicDesk$Form", name := "sortOfFallen", desc := "()I" } : Jvm.MethodName) ∈ lw_g := lw_m 22 (by decide +kernel) (by decide +kernel)
theorem k_23 : Jvm.Cond.selects "ConicDesk" ({ cls := "ConicDesk", name := "overField", desc := "(I)I" } : Jvm.MethodName) ({ cls := "ConicDesk", name := "overField", desc := "(I)I" } : Jvm.MethodName) ∈ lw_g := lw_m 23 (by decide +kernel) (by decide +kernel)
theorem k_24 : Jvm.Cond.selects "ConicDesk" ({ cls := "ConicDesk", name := "takeBoth", desc := "(II)Z" } : Jvm.MethodName) ({ cls := "ConicDesk", name := "takeBoth", desc := "(II)Z" } : Jvm.MethodName) ∈ lw_g := lw_m 24 (by decide +kernel) (by decide +kernel)
theorem k_25 : Jvm.Cond.selects "ConicDesk" ({ cls := "ConicDesk", name := "tangentsThroughSpot", desc := "()I" } : Jvm.MethodName) ({ cls := "ConicDesk", name := "tangentsThroughSpot", desc := "()I" } : Jvm.MethodName) ∈ lw_g := lw_m 25 (by decide +kernel) (by decide +kernel)
theorem k_26 : Jvm.Cond.selects "ConicDesk$Curve" ({ cls := "ConicDesk$Curve", name := "zeros", desc := "(III)I" } : Jvm.MethodName) ({ cls := "ConicDesk$Curve", name := "zeros", desc := "(III)I" } : Jvm.MethodName) ∈ lw_g := lw_m 26 (by decide +kernel) (by decide +kernel)
theorem k_27 : Jvm.Cond.selects "ConicDesk" ({ cls := "ConicDesk", name := "nthLineOn", desc := "(I)I" } : Jvm.MethodName) ({ cls := "ConicDesk", name := "nthLineOn", desc := "(I)I" } : Jvm.MethodName) ∈ lw_g := lw_m 27 (by decide +kernel) (by decide +kernel)
theorem k_28 : Jvm.Cond.selects "ConicDesk" ({ cls := "ConicDesk", name := "nthPointOn", desc := "(I)I" } : Jvm.MethodName) ({ cls := "ConicDesk", name := "nthPointOn", desc := "(I)I" } : Jvm.MethodName) ∈ lw_g := lw_m 28 (by decide +kernel) (by decide +kernel)
theorem k_29 : Jvm.Cond.selects "ConicDesk" ({ cls := "ConicDesk", name := "nthTangentThroughSpot", desc := "(I)I" } : Jvm.MethodName) ({ cls := "ConicDesk", name := "nthTangentThroughSpot", desc := "(I)I" } : Jvm.MethodName) ∈ lw_g := lw_m 29 (by decide +kernel) (by decide +kernel)
theorem k_30 : Jvm.Cond.selects "ConicDesk" ({ cls := "ConicDesk", name := "takePencil", desc := "(II)Z" } : Jvm.MethodName) ({ cls := "ConicDesk", name := "takePencil", desc := "(II)Z" } : Jvm.MethodName) ∈ lw_g := lw_m 30 (by decide +kernel) (by decide +kernel)
theorem k_31 : Jvm.Cond.selects "ConicDesk$Pencil" ({ cls := "ConicDesk$Pencil", name := "isOfBase", desc := "(I)Z" } : Jvm.MethodName) ({ cls := "ConicDesk$Pencil", name := "isOfBase", desc := "(I)Z" } : Jvm.MethodName) ∈ lw_g := lw_m 31 (by decide +kernel) (by decide +kernel)
theorem k_32 : Jvm.Cond.selects "ConicDesk$Pencil" ({ cls := "ConicDesk$Pencil", name := "polarAtSpot", desc := "(LConicDesk$Curve;)I" } : Jvm.MethodName) ({ cls := "ConicDesk$Pencil", name := "polarAtSpot", desc := "(LConicDesk$Curve;)I" } : Jvm.MethodName) ∈ lw_g := lw_m 32 (by decide +kernel) (by decide +kernel)
theorem k_33 : Jvm.Cond.selects "ConicDeskModel" ({ cls := "ConicDeskModel", name := "firsts", desc := "(I)V" } : Jvm.MethodName) ({ cls := "ConicDeskModel", name := "firsts", desc := "(I)V" } : Jvm.MethodName) ∈ lw_g := lw_m 33 (by decide +kernel) (by decide +kernel)
theorem k_34 : Jvm.Cond.selects "ConicDeskModel" ({ cls := "ConicDeskModel", name := "refused", desc := "(II)I" } : Jvm.MethodName) ({ cls := "ConicDeskModel", name := "refused", desc := "(II)I" } : Jvm.MethodName) ∈ lw_g := lw_m 34 (by decide +kernel) (by decide +kernel)
theorem k_35 : Jvm.Cond.selects "ConicDeskModel" ({ cls := "ConicDeskModel", name := "keeps", desc := "()V" } : Jvm.MethodName) ({ cls := "ConicDeskModel", name := "keeps", desc := "()V" } : Jvm.MethodName) ∈ lw_g := lw_m 35 (by decide +kernel) (by decide +kernel)
theorem k_36 : Jvm.Cond.selects "ConicDeskModel" ({ cls := "ConicDeskModel", name := "copies", desc := "(III)V" } : Jvm.MethodName) ({ cls := "ConicDeskModel", name := "copies", desc := "(III)V" } : Jvm.MethodName) ∈ lw_g := lw_m 36 (by decide +kernel) (by decide +kernel)
theorem k_37 : Jvm.Cond.selects "ConicDeskModel" ({ cls := "ConicDeskModel", name := "laysIts", desc := "(I)V" } : Jvm.MethodName) ({ cls := "ConicDeskModel", name := "laysIts", desc := "(I)V" } : Jvm.MethodName) ∈ lw_g := lw_m 37 (by decide +kernel) (by decide +kernel)
theorem k_38 : Jvm.Cond.selects "ConicDeskModel" ({ cls := "ConicDeskModel", name := "becomes", desc := "(I)I" } : Jvm.MethodName) ({ cls := "ConicDeskModel", name := "becomes", desc := "(I)I" } : Jvm.MethodName) ∈ lw_g := lw_m 38 (by decide +kernel) (by decide +kernel)
theorem k_39 : Jvm.Cond.selects "ConicDeskModel" ({ cls := "ConicDeskModel", name := "whyNot", desc := "()I" } : Jvm.MethodName) ({ cls := "ConicDeskModel", name := "whyNot", desc := "()I" } : Jvm.MethodName) ∈ lw_g := lw_m 39 (by decide +kernel) (by decide +kernel)
theorem k_40 : Jvm.Cond.selects "ConicDeskModel" ({ cls := "ConicDeskModel", name := "takesIts", desc := "(II)V" } : Jvm.MethodName) ({ cls := "ConicDeskModel", name := "takesIts", desc := "(II)V" } : Jvm.MethodName) ∈ lw_g := lw_m 40 (by decide +kernel) (by decide +kernel)
theorem k_41 : Jvm.Cond.selects "ConicDeskModel" ({ cls := "ConicDeskModel", name := "laysConic", desc := "(II)V" } : Jvm.MethodName) ({ cls := "ConicDeskModel", name := "laysConic", desc := "(II)V" } : Jvm.MethodName) ∈ lw_g := lw_m 41 (by decide +kernel) (by decide +kernel)
theorem k_42 : Jvm.Cond.selects "ConicDeskModel" ({ cls := "ConicDeskModel", name := "rest", desc := "(I)I" } : Jvm.MethodName) ({ cls := "ConicDeskModel", name := "rest", desc := "(I)I" } : Jvm.MethodName) ∈ lw_g := lw_m 42 (by decide +kernel) (by decide +kernel)
theorem k_43 : Jvm.Cond.selects "ConicDeskModel" ({ cls := "ConicDeskModel", name := "kindOf", desc := "()I" } : Jvm.MethodName) ({ cls := "ConicDeskModel", name := "kindOf", desc := "()I" } : Jvm.MethodName) ∈ lw_g := lw_m 43 (by decide +kernel) (by decide +kernel)
theorem k_44 : Jvm.Cond.selects "ConicDeskModel" ({ cls := "ConicDeskModel", name := "rankOf", desc := "()I" } : Jvm.MethodName) ({ cls := "ConicDeskModel", name := "rankOf", desc := "()I" } : Jvm.MethodName) ∈ lw_g := lw_m 44 (by decide +kernel) (by decide +kernel)
theorem k_45 : Jvm.Cond.selects "ConicDeskModel" ({ cls := "ConicDeskModel", name := "rank", desc := "(II)I" } : Jvm.MethodName) ({ cls := "ConicDeskModel", name := "rank", desc := "(II)I" } : Jvm.MethodName) ∈ lw_g := lw_m 45 (by decide +kernel) (by decide +kernel)
theorem k_46 : Jvm.Cond.selects "ConicDeskModel" ({ cls := "ConicDeskModel", name := "inverse", desc := "(I)I" } : Jvm.MethodName) ({ cls := "ConicDeskModel", name := "inverse", desc := "(I)I" } : Jvm.MethodName) ∈ lw_g := lw_m 46 (by decide +kernel) (by decide +kernel)
theorem k_47 : Jvm.Cond.selects "ConicDeskModel" ({ cls := "ConicDeskModel", name := "linesOn", desc := "()I" } : Jvm.MethodName) ({ cls := "ConicDeskModel", name := "linesOn", desc := "()I" } : Jvm.MethodName) ∈ lw_g := lw_m 47 (by decide +kernel) (by decide +kernel)
theorem k_48 : Jvm.Cond.selects "ConicDeskModel" ({ cls := "ConicDeskModel", name := "places", desc := "()I" } : Jvm.MethodName) ({ cls := "ConicDeskModel", name := "places", desc := "()I" } : Jvm.MethodName) ∈ lw_g := lw_m 48 (by decide +kernel) (by decide +kernel)
theorem k_49 : Jvm.Cond.selects "ConicDeskModel" ({ cls := "ConicDeskModel", name := "isOfAll", desc := "(I)Z" } : Jvm.MethodName) ({ cls := "ConicDeskModel", name := "isOfAll", desc := "(I)Z" } : Jvm.MethodName) ∈ lw_g := lw_m 49 (by decide +kernel) (by decide +kernel)
theorem k_50 : Jvm.Cond.selects "ConicDeskModel" ({ cls := "ConicDeskModel", name := "isOnLine", desc := "(II)Z" } : Jvm.MethodName) ({ cls := "ConicDeskModel", name := "isOnLine", desc := "(II)Z" } : Jvm.MethodName) ∈ lw_g := lw_m 50 (by decide +kernel) (by decide +kernel)
theorem k_51 : Jvm.Cond.selects "ConicDeskModel" ({ cls := "ConicDeskModel", name := "laysPlace", desc := "(I)V" } : Jvm.MethodName) ({ cls := "ConicDeskModel", name := "laysPlace", desc := "(I)V" } : Jvm.MethodName) ∈ lw_g := lw_m 51 (by decide +kernel) (by decide +kernel)
theorem k_52 : Jvm.Cond.selects "ConicDeskModel" ({ cls := "ConicDeskModel", name := "isOn", desc := "(I)Z" } : Jvm.MethodName) ({ cls := "ConicDeskModel", name := "isOn", desc := "(I)Z" } : Jvm.MethodName) ∈ lw_g := lw_m 52 (by decide +kernel) (by decide +kernel)
theorem k_53 : Jvm.Cond.selects "ConicDeskModel" ({ cls := "ConicDeskModel", name := "hasOne", desc := "()Z" } : Jvm.MethodName) ({ cls := "ConicDeskModel", name := "hasOne", desc := "()Z" } : Jvm.MethodName) ∈ lw_g := lw_m 53 (by decide +kernel) (by decide +kernel)
theorem k_54 : Jvm.Cond.selects "ConicDeskModel" ({ cls := "ConicDeskModel", name := "rankWith", desc := "(I)I" } : Jvm.MethodName) ({ cls := "ConicDeskModel", name := "rankWith", desc := "(I)I" } : Jvm.MethodName) ∈ lw_g := lw_m 54 (by decide +kernel) (by decide +kernel)
theorem k_55 : Jvm.Cond.selects "ConicDeskModel" ({ cls := "ConicDeskModel", name := "laysMark", desc := "(II)V" } : Jvm.MethodName) ({ cls := "ConicDeskModel", name := "laysMark", desc := "(II)V" } : Jvm.MethodName) ∈ lw_g := lw_m 55 (by decide +kernel) (by decide +kernel)
theorem k_56 : Jvm.Cond.selects "ConicDeskModel" ({ cls := "ConicDeskModel", name := "isPlace", desc := "(I)Z" } : Jvm.MethodName) ({ cls := "ConicDeskModel", name := "isPlace", desc := "(I)Z" } : Jvm.MethodName) ∈ lw_g := lw_m 56 (by decide +kernel) (by decide +kernel)
theorem k_57 : Jvm.Cond.selects "ConicDeskModel" ({ cls := "ConicDeskModel", name := "markOf", desc := "(II)I" } : Jvm.MethodName) ({ cls := "ConicDeskModel", name := "markOf", desc := "(II)I" } : Jvm.MethodName) ∈ lw_g := lw_m 57 (by decide +kernel) (by decide +kernel)
theorem k_58 : Jvm.Cond.selects "ConicDeskModel" ({ cls := "ConicDeskModel", name := "proper", desc := "()I" } : Jvm.MethodName) ({ cls := "ConicDeskModel", name := "proper", desc := "()I" } : Jvm.MethodName) ∈ lw_g := lw_m 58 (by decide +kernel) (by decide +kernel)
theorem k_59 : Jvm.Cond.selects "ConicDeskModel" ({ cls := "ConicDeskModel", name := "lined", desc := "()I" } : Jvm.MethodName) ({ cls := "ConicDeskModel", name := "lined", desc := "()I" } : Jvm.MethodName) ∈ lw_g := lw_m 59 (by decide +kernel) (by decide +kernel)
theorem k_60 : Jvm.Cond.selects "ConicDeskModel" ({ cls := "ConicDeskModel", name := "areOnLine", desc := "(III)Z" } : Jvm.MethodName) ({ cls := "ConicDeskModel", name := "areOnLine", desc := "(III)Z" } : Jvm.MethodName) ∈ lw_g := lw_m 60 (by decide +kernel) (by decide +kernel)
theorem k_61 : Jvm.Cond.selects "ConicDeskModel" ({ cls := "ConicDeskModel", name := "lineOf", desc := "(II)I" } : Jvm.MethodName) ({ cls := "ConicDeskModel", name := "lineOf", desc := "(II)I" } : Jvm.MethodName) ∈ lw_g := lw_m 61 (by decide +kernel) (by decide +kernel)
theorem k_62 : Jvm.Cond.selects "ConicDeskModel" ({ cls := "ConicDeskModel", name := "numberOf", desc := "(III)I" } : Jvm.MethodName) ({ cls := "ConicDeskModel", name := "numberOf", desc := "(III)I" } : Jvm.MethodName) ∈ lw_g := lw_m 62 (by decide +kernel) (by decide +kernel)
theorem k_63 : Jvm.Cond.selects "ConicDeskModel" ({ cls := "ConicDeskModel", name := "sort", desc := "(I)I" } : Jvm.MethodName) ({ cls := "ConicDeskModel", name := "sort", desc := "(I)I" } : Jvm.MethodName) ∈ lw_g := lw_m 63 (by decide +kernel) (by decide +kernel)
theorem k_64 : Jvm.Cond.selects "ConicDeskModel" ({ cls := "ConicDeskModel", name := "told", desc := "(II)I" } : Jvm.MethodName) ({ cls := "ConicDeskModel", name := "told", desc := "(II)I" } : Jvm.MethodName) ∈ lw_g := lw_m 64 (by decide +kernel) (by decide +kernel)
theorem k_65 : Jvm.Cond.selects "ConicDeskModel" ({ cls := "ConicDeskModel", name := "pointsOn", desc := "()I" } : Jvm.MethodName) ({ cls := "ConicDeskModel", name := "pointsOn", desc := "()I" } : Jvm.MethodName) ∈ lw_g := lw_m 65 (by decide +kernel) (by decide +kernel)
theorem k_66 : Jvm.Cond.selects "ConicDeskModel" ({ cls := "ConicDeskModel", name := "sided", desc := "(I)I" } : Jvm.MethodName) ({ cls := "ConicDeskModel", name := "sided", desc := "(I)I" } : Jvm.MethodName) ∈ lw_g := lw_m 66 (by decide +kernel) (by decide +kernel)
theorem k_67 : Jvm.Cond.selects "ConicDeskModel" ({ cls := "ConicDeskModel", name := "liesOf", desc := "(II)I" } : Jvm.MethodName) ({ cls := "ConicDeskModel", name := "liesOf", desc := "(II)I" } : Jvm.MethodName) ∈ lw_g := lw_m 67 (by decide +kernel) (by decide +kernel)
theorem k_68 : Jvm.Cond.selects "ConicDeskModel" ({ cls := "ConicDeskModel", name := "tangents", desc := "(I)I" } : Jvm.MethodName) ({ cls := "ConicDeskModel", name := "tangents", desc := "(I)I" } : Jvm.MethodName) ∈ lw_g := lw_m 68 (by decide +kernel) (by decide +kernel)
theorem k_69 : Jvm.Cond.selects "ConicDeskModel" ({ cls := "ConicDeskModel", name := "polarOf", desc := "(I)I" } : Jvm.MethodName) ({ cls := "ConicDeskModel", name := "polarOf", desc := "(I)I" } : Jvm.MethodName) ∈ lw_g := lw_m 69 (by decide +kernel) (by decide +kernel)
theorem k_70 : Jvm.Cond.selects "ConicDeskModel" ({ cls := "ConicDeskModel", name := "isTangent", desc := "(I)Z" } : Jvm.MethodName) ({ cls := "ConicDeskModel", name := "isTangent", desc := "(I)Z" } : Jvm.MethodName) ∈ lw_g := lw_m 70 (by decide +kernel) (by decide +kernel)
theorem k_71 : Jvm.Cond.selects "ConicDeskModel" ({ cls := "ConicDeskModel", name := "isPencil", desc := "(II)Z" } : Jvm.MethodName) ({ cls := "ConicDeskModel", name := "isPencil", desc := "(II)Z" } : Jvm.MethodName) ∈ lw_g := lw_m 71 (by decide +kernel) (by decide +kernel)
theorem k_72 : Jvm.Cond.selects "ConicDeskModel" ({ cls := "ConicDeskModel", name := "isVoid", desc := "()Z" } : Jvm.MethodName) ({ cls := "ConicDeskModel", name := "isVoid", desc := "()Z" } : Jvm.MethodName) ∈ lw_g := lw_m 72 (by decide +kernel) (by decide +kernel)
theorem k_73 : Jvm.Cond.selects "ConicDeskModel" ({ cls := "ConicDeskModel", name := "base", desc := "(III)I" } : Jvm.MethodName) ({ cls := "ConicDeskModel", name := "base", desc := "(III)I" } : Jvm.MethodName) ∈ lw_g := lw_m 73 (by decide +kernel) (by decide +kernel)
theorem k_74 : Jvm.Cond.selects "ConicDeskModel" ({ cls := "ConicDeskModel", name := "isBase", desc := "(III)Z" } : Jvm.MethodName) ({ cls := "ConicDeskModel", name := "isBase", desc := "(III)Z" } : Jvm.MethodName) ∈ lw_g := lw_m 74 (by decide +kernel) (by decide +kernel)
theorem k_75 : Jvm.Cond.selects "ConicDeskModel" ({ cls := "ConicDeskModel", name := "fallen", desc := "(II)I" } : Jvm.MethodName) ({ cls := "ConicDeskModel", name := "fallen", desc := "(II)I" } : Jvm.MethodName) ∈ lw_g := lw_m 75 (by decide +kernel) (by decide +kernel)
theorem k_76 : Jvm.Cond.selects "ConicDeskModel" ({ cls := "ConicDeskModel", name := "laysMember", desc := "(III)V" } : Jvm.MethodName) ({ cls := "ConicDeskModel", name := "laysMember", desc := "(III)V" } : Jvm.MethodName) ∈ lw_g := lw_m 76 (by decide +kernel) (by decide +kernel)
theorem k_77 : Jvm.Cond.selects "ConicDeskModel" ({ cls := "ConicDeskModel", name := "touching", desc := "(II)I" } : Jvm.MethodName) ({ cls := "ConicDeskModel", name := "touching", desc := "(II)I" } : Jvm.MethodName) ∈ lw_g := lw_m 77 (by decide +kernel) (by decide +kernel)
theorem k_78 : Jvm.Cond.selects "ConicDeskModel" ({ cls := "ConicDeskModel", name := "takes", desc := "()V" } : Jvm.MethodName) ({ cls := "ConicDeskModel", name := "takes", desc := "()V" } : Jvm.MethodName) ∈ lw_g := lw_m 78 (by decide +kernel) (by decide +kernel)
theorem k_79 : Jvm.Cond.selects "ConicDeskModel" ({ cls := "ConicDeskModel", name := "byteAt", desc := "(I)I" } : Jvm.MethodName) ({ cls := "ConicDeskModel", name := "byteAt", desc := "(I)I" } : Jvm.MethodName) ∈ lw_g := lw_m 79 (by decide +kernel) (by decide +kernel)
theorem k_80 : Jvm.Cond.selects "ConicDeskModel" ({ cls := "ConicDeskModel", name := "isGood", desc := "()Z" } : Jvm.MethodName) ({ cls := "ConicDeskModel", name := "isGood", desc := "()Z" } : Jvm.MethodName) ∈ lw_g := lw_m 80 (by decide +kernel) (by decide +kernel)
theorem k_81 : Jvm.Cond.selects "ConicDeskModel" ({ cls := "ConicDeskModel", name := "readsLine", desc := "()V" } : Jvm.MethodName) ({ cls := "ConicDeskModel", name := "readsLine", desc := "()V" } : Jvm.MethodName) ∈ lw_g := lw_m 81 (by decide +kernel) (by decide +kernel)
theorem k_82 : Jvm.Cond.selects "ConicDeskModel" ({ cls := "ConicDeskModel", name := "hasWord", desc := "(J)Z" } : Jvm.MethodName) ({ cls := "ConicDeskModel", name := "hasWord", desc := "(J)Z" } : Jvm.MethodName) ∈ lw_g := lw_m 82 (by decide +kernel) (by decide +kernel)
theorem k_83 : Jvm.Cond.selects "ConicDeskModel" ({ cls := "ConicDeskModel", name := "readsPrime", desc := "()V" } : Jvm.MethodName) ({ cls := "ConicDeskModel", name := "readsPrime", desc := "()V" } : Jvm.MethodName) ∈ lw_g := lw_m 83 (by decide +kernel) (by decide +kernel)
theorem k_84 : Jvm.Cond.selects "ConicDeskModel" ({ cls := "ConicDeskModel", name := "fails", desc := "(II)V" } : Jvm.MethodName) ({ cls := "ConicDeskModel", name := "fails", desc := "(II)V" } : Jvm.MethodName) ∈ lw_g := lw_m 84 (by decide +kernel) (by decide +kernel)
theorem k_85 : Jvm.Cond.selects "ConicDeskModel" ({ cls := "ConicDeskModel", name := "numeral", desc := "(I)I" } : Jvm.MethodName) ({ cls := "ConicDeskModel", name := "numeral", desc := "(I)I" } : Jvm.MethodName) ∈ lw_g := lw_m 85 (by decide +kernel) (by decide +kernel)
theorem k_86 : Jvm.Cond.selects "ConicDeskModel" ({ cls := "ConicDeskModel", name := "ends", desc := "()V" } : Jvm.MethodName) ({ cls := "ConicDeskModel", name := "ends", desc := "()V" } : Jvm.MethodName) ∈ lw_g := lw_m 86 (by decide +kernel) (by decide +kernel)
theorem k_87 : Jvm.Cond.selects "ConicDeskModel" ({ cls := "ConicDeskModel", name := "hasSign", desc := "(I)Z" } : Jvm.MethodName) ({ cls := "ConicDeskModel", name := "hasSign", desc := "(I)Z" } : Jvm.MethodName) ∈ lw_g := lw_m 87 (by decide +kernel) (by decide +kernel)
theorem k_88 : Jvm.Cond.selects "ConicDeskModel" ({ cls := "ConicDeskModel", name := "readsPoint", desc := "(I)V" } : Jvm.MethodName) ({ cls := "ConicDeskModel", name := "readsPoint", desc := "(I)V" } : Jvm.MethodName) ∈ lw_g := lw_m 88 (by decide +kernel) (by decide +kernel)
theorem k_89 : Jvm.Cond.selects "ConicDeskModel" ({ cls := "ConicDeskModel", name := "readsConic", desc := "(IZ)V" } : Jvm.MethodName) ({ cls := "ConicDeskModel", name := "readsConic", desc := "(IZ)V" } : Jvm.MethodName) ∈ lw_g := lw_m 89 (by decide +kernel) (by decide +kernel)
theorem k_90 : Jvm.Cond.selects "ConicDeskModel" ({ cls := "ConicDeskModel", name := "signed", desc := "()I" } : Jvm.MethodName) ({ cls := "ConicDeskModel", name := "signed", desc := "()I" } : Jvm.MethodName) ∈ lw_g := lw_m 90 (by decide +kernel) (by decide +kernel)
theorem k_92 : Jvm.Cond.initialized "ConicDesk" ∈ lw_g := lw_m 92 (by decide +kernel) (by decide +kernel)
theorem k_93 : Jvm.Cond.initialized "ConicDesk$Moment" ∈ lw_g := lw_m 93 (by decide +kernel) (by decide +kernel)
theorem k_94 : Jvm.Cond.initialized "ConicDesk$Sheet" ∈ lw_g := lw_m 94 (by decide +kernel) (by decide +kernel)
theorem k_95 : Jvm.Cond.initialized "ConicDesk$Tape" ∈ lw_g := lw_m 95 (by decide +kernel) (by decide +kernel)
theorem k_96 : Jvm.Cond.initialized "ConicDesk$Past" ∈ lw_g := lw_m 96 (by decide +kernel) (by decide +kernel)
theorem k_97 : Jvm.Cond.initialized "ConicDesk$Reader" ∈ lw_g := lw_m 97 (by decide +kernel) (by decide +kernel)
theorem k_98 : Jvm.Cond.initialized "ConicDesk$Form" ∈ lw_g := lw_m 98 (by decide +kernel) (by decide +kernel)
theorem k_99 : Jvm.Cond.initialized "ConicDesk$Triple" ∈ lw_g := lw_m 99 (by decide +kernel) (by decide +kernel)
theorem k_100 : Jvm.Cond.initialized "ConicDesk$Pencil" ∈ lw_g := lw_m 100 (by decide +kernel) (by decide +kernel)
theorem k_101 : Jvm.Cond.initialized "ConicDesk$Curve" ∈ lw_g := lw_m 101 (by decide +kernel) (by decide +kernel)
theorem k_102 : Jvm.Cond.initialized "ConicDesk$Family" ∈ lw_g := lw_m 102 (by decide +kernel) (by decide +kernel)
theorem k_103 : Jvm.Cond.initialized "ConicDeskModel" ∈ lw_g := lw_m 103 (by decide +kernel) (by decide +kernel)
theorem k_104 : Jvm.Cond.initialized "java/lang/String" ∈ lw_g := lw_m 104 (by decide +kernel) (by decide +kernel)
theorem k_105 : Jvm.Cond.initialized "java/lang/StringLatin1" ∈ lw_g := lw_m 105 (by decide +kernel) (by decide +kernel)
theorem k_106 : Jvm.Cond.initialized "jdk/internal/util/Preconditions" ∈ lw_g := lw_m 106 (by decide +kernel) (by decide +kernel)
theorem k_108 : Jvm.Cond.initialized "ConicDesk$Field" ∈ lw_g := lw_m 108 (by decide +kernel) (by decide +kernel)
theorem k_109 : Jvm.Cond.initialized "java/lang/System" ∈ lw_g := lw_m 109 (by decide +kernel) (by decide +kernel)
theorem k_110 : Jvm.Cond.initialized "java/lang/Math" ∈ lw_g := lw_m 110 (by decide +kernel) (by decide +kernel)
theorem k_111 : Jvm.Cond.classLink "ConicDeskLaw" (7 : Nat) "ConicDesk" ∈ lw_g := lw_m 111 (by decide +kernel) (by decide +kernel)
theorem k_112 : Jvm.Cond.instantiable "ConicDesk" (14 : Nat) ∈ lw_g := lw_m 112 (by decide +kernel) (by decide +kernel)
theorem k_113 : Jvm.Cond.methodLink "ConicDeskLaw" (9 : Nat) ({ cls := "ConicDesk", name := "<init>", desc := "()V" } : Jvm.MethodName) ∈ lw_g := lw_m 113 (by decide +kernel) (by decide +kernel)
theorem k_114 : Jvm.Cond.instanceMethod ({ cls := "ConicDesk", name := "<init>", desc := "()V" } : Jvm.MethodName) ∈ lw_g := lw_m 114 (by decide +kernel) (by decide +kernel)
theorem k_115 : Jvm.Cond.code ({ cls := "ConicDesk", name := "<init>", desc := "()V" } : Jvm.MethodName) prog_1_method_1_code (2 : Nat) (Option.none : Option Jvm.ClassFile.FieldType) ∈ lw_g := lw_m 115 (by decide +kernel) (by decide +kernel)
theorem k_116 : Jvm.Cond.methodLink "ConicDesk" (1 : Nat) ({ cls := "java/lang/Object", name := "<init>", desc := "()V" } : Jvm.MethodName) ∈ lw_g := lw_m 116 (by decide +kernel) (by decide +kernel)
theorem k_117 : Jvm.Cond.instanceMethod ({ cls := "java/lang/Object", name := "<init>", desc := "()V" } : Jvm.MethodName) ∈ lw_g := lw_m 117 (by decide +kernel) (by decide +kernel)
theorem k_118 : Jvm.Cond.code ({ cls := "java/lang/Object", name := "<init>", desc := "()V" } : Jvm.MethodName) object_method_1_code (1 : Nat) (Option.none : Option Jvm.ClassFile.FieldType) ∈ lw_g := lw_m 118 (by decide +kernel) (by decide +kernel)
theorem k_119 : Jvm.Cond.classLink "ConicDesk" (7 : Nat) "ConicDesk$Moment" ∈ lw_g := lw_m 119 (by decide +kernel) (by decide +kernel)
theorem k_120 : Jvm.Cond.instantiable "ConicDesk$Moment" (6 : Nat) ∈ lw_g := lw_m 120 (by decide +kernel) (by decide +kernel)
theorem k_121 : (("ConicDesk", 9, ({ cls := "ConicDesk$Moment", name := "<init>", desc := "()V" } : Jvm.MethodName), "ConicDesk") : String × Nat × MethodName × String) ∈ nestL := nest_m 121 (by decide +kernel)
theorem k_122 : Jvm.Cond.instanceMethod ({ cls := "ConicDesk$Moment", name := "<init>", desc := "()V" } : Jvm.MethodName) ∈ lw_g := lw_m 122 (by decide +kernel) (by decide +kernel)
theorem k_123 : Jvm.Cond.code ({ cls := "ConicDesk$Moment", name := "<init>", desc := "()V" } : Jvm.MethodName) prog_6_method_1_code (1 : Nat) (Option.none : Option Jvm.ClassFile.FieldType) ∈ lw_g := lw_m 123 (by decide +kernel) (by decide +kernel)
theorem k_124 : Jvm.Cond.methodLink "ConicDesk$Moment" (3 : Nat) ({ cls := "java/lang/Object", name := "<init>", desc := "()V" } : Jvm.MethodName) ∈ lw_g := lw_m 124 (by decide +kernel) (by decide +kernel)
theorem k_125 : Jvm.Cond.classLink "ConicDesk$Moment" (9 : Nat) "ConicDesk$Sheet" ∈ lw_g := lw_m 125 (by decide +kernel) (by decide +kernel)
theorem k_126 : Jvm.Cond.instantiable "ConicDesk$Sheet" (4 : Nat) ∈ lw_g := lw_m 126 (by decide +kernel) (by decide +kernel)
theorem k_127 : Jvm.Cond.methodLink "ConicDesk$Moment" (11 : Nat) ({ cls := "ConicDesk$Sheet", name := "<init>", desc := "()V" } : Jvm.MethodName) ∈ lw_g := lw_m 127 (by decide +kernel) (by decide +kernel)
theorem k_128 : Jvm.Cond.instanceMethod ({ cls := "ConicDesk$Sheet", name := "<init>", desc := "()V" } : Jvm.MethodName) ∈ lw_g := lw_m 128 (by decide +kernel) (by decide +kernel)
theorem k_129 : Jvm.Cond.code ({ cls := "ConicDesk$Sheet", name := "<init>", desc := "()V" } : Jvm.MethodName) prog_10_method_1_code (1 : Nat) (Option.none : Option Jvm.ClassFile.FieldType) ∈ lw_g := lw_m 129 (by decide +kernel) (by decide +kernel)
theorem k_130 : Jvm.Cond.methodLink "ConicDesk$Sheet" (3 : Nat) ({ cls := "java/lang/Object", name := "<init>", desc := "()V" } : Jvm.MethodName) ∈ lw_g := lw_m 130 (by decide +kernel) (by decide +kernel)
theorem k_131 : Jvm.Cond.methodLink "ConicDesk$Sheet" (18 : Nat) ({ cls := "ConicDesk$Sheet", name := "clear", desc := "()V" } : Jvm.MethodName) ∈ lw_g := lw_m 131 (by decide +kernel) (by decide +kernel)
theorem k_132 : Jvm.Cond.instanceMethod ({ cls := "ConicDesk$Sheet", name := "clear", desc := "()V" } : Jvm.MethodName) ∈ lw_g := lw_m 132 (by decide +kernel) (by decide +kernel)
theorem k_133 : Jvm.Cond.selects "ConicDesk$Sheet" ({ cls := "ConicDesk$Sheet", name := "clear", desc := "()V" } : Jvm.MethodName) ({ cls := "ConicDesk$Sheet", name := "clear", desc := "()V" } : Jvm.MethodName) ∈ lw_g := lw_m 133 (by decide +kernel) (by decide +kernel)
theorem k_134 : Jvm.Cond.code ({ cls := "ConicDesk$Sheet", name := "clear", desc := "()V" } : Jvm.MethodName) prog_10_method_2_code (2 : Nat) (Option.none : Option Jvm.ClassFile.FieldType) ∈ lw_g := lw_m 134 (by decide +kernel) (by decide +kernel)
theorem k_135 : Jvm.Cond.fieldLink "ConicDesk$Curve" (22 : Nat) "ConicDesk$Sheet" "prime" "I" ∈ lw_g := lw_m 135 (by decide +kernel) (by decide +kernel)
theorem k_136 : Jvm.Cond.fieldLink "ConicDesk$Sheet" (21 : Nat) "ConicDesk$Sheet" "prime" "I" ∈ lw_g := lw_m 136 (by decide +kernel) (by decide +kernel)
theorem k_137 : Jvm.Cond.fieldLink "ConicDesk$Family" (29 : Nat) "ConicDesk$Sheet" "prime" "I" ∈ lw_g := lw_m 137 (by decide +kernel) (by decide +kernel)
theorem k_138 : Jvm.Cond.fieldLink "ConicDesk" (135 : Nat) "ConicDesk$Sheet" "prime" "I" ∈ lw_g := lw_m 138 (by decide +kernel) (by decide +kernel)
theorem k_139 : Jvm.Cond.fieldLink "ConicDesk$Reader" (95 : Nat) "ConicDesk$Sheet" "prime" "I" ∈ lw_g := lw_m 139 (by decide +kernel) (by decide +kernel)
theorem k_140 : Jvm.Cond.fieldLink "ConicDesk$Sheet" (25 : Nat) "ConicDesk$Sheet" "markCount" "I" ∈ lw_g := lw_m 140 (by decide +kernel) (by decide +kernel)
theorem k_141 : Jvm.Cond.fieldLink "ConicDesk$Family" (51 : Nat) "ConicDesk$Sheet" "markCount" "I" ∈ lw_g := lw_m 141 (by decide +kernel) (by decide +kernel)
theorem k_142 : Jvm.Cond.fieldLink "ConicDesk$Reader" (114 : Nat) "ConicDesk$Sheet" "markCount" "I" ∈ lw_g := lw_m 142 (by decide +kernel) (by decide +kernel)
theorem k_143 : Jvm.Cond.fieldLink "ConicDesk" (213 : Nat) "ConicDesk$Sheet" "markCount" "I" ∈ lw_g := lw_m 143 (by decide +kernel) (by decide +kernel)
theorem k_144 : Jvm.Cond.fieldLink "ConicDesk$Sheet" (9 : Nat) "ConicDesk$Sheet" "marks" "[I" ∈ lw_g := lw_m 144 (by decide +kernel) (by decide +kernel)
theorem k_145 : Jvm.Cond.fieldLink "ConicDesk$Sheet" (15 : Nat) "ConicDesk$Sheet" "numbers" "[I" ∈ lw_g := lw_m 145 (by decide +kernel) (by decide +kernel)
theorem k_155 : Jvm.Cond.arrayClass Jvm.ClassFile.FieldType.int ∈ lw_g := lw_m 155 (by decide +kernel) (by decide +kernel)
theorem k_156 : Jvm.Cond.classLink "ConicDesk$Moment" (18 : Nat) "ConicDesk$Tape" ∈ lw_g := lw_m 156 (by decide +kernel) (by decide +kernel)
theorem k_157 : Jvm.Cond.instantiable "ConicDesk$Tape" (2 : Nat) ∈ lw_g := lw_m 157 (by decide +kernel) (by decide +kernel)
theorem k_158 : (("ConicDesk$Moment", 20, ({ cls := "ConicDesk$Tape", name := "<init>", desc := "()V" } : Jvm.MethodName), "ConicDesk") : String × Nat × MethodName × String) ∈ nestL := nest_m 158 (by decide +kernel)
theorem k_159 : Jvm.Cond.instanceMethod ({ cls := "ConicDesk$Tape", name := "<init>", desc := "()V" } : Jvm.MethodName) ∈ lw_g := lw_m 159 (by decide +kernel) (by decide +kernel)
theorem k_160 : Jvm.Cond.code ({ cls := "ConicDesk$Tape", name := "<init>", desc := "()V" } : Jvm.MethodName) prog_11_method_1_code (1 : Nat) (Option.none : Option Jvm.ClassFile.FieldType) ∈ lw_g := lw_m 160 (by decide +kernel) (by decide +kernel)
theorem k_161 : Jvm.Cond.methodLink "ConicDesk$Tape" (3 : Nat) ({ cls := "java/lang/Object", name := "<init>", desc := "()V" } : Jvm.MethodName) ∈ lw_g := lw_m 161 (by decide +kernel) (by decide +kernel)
theorem k_162 : Jvm.Cond.fieldLink "ConicDesk$Tape" (9 : Nat) "ConicDesk$Tape" "bytes" "[B" ∈ lw_g := lw_m 162 (by decide +kernel) (by decide +kernel)
theorem k_163 : Jvm.Cond.fieldLink "ConicDesk$Tape" (15 : Nat) "ConicDesk$Tape" "length" "I" ∈ lw_g := lw_m 163 (by decide +kernel) (by decide +kernel)
theorem k_164 : Jvm.Cond.fieldLink "ConicDesk" (89 : Nat) "ConicDesk$Tape" "length" "I" ∈ lw_g := lw_m 164 (by decide +kernel) (by decide +kernel)
theorem k_170 : Jvm.Cond.arrayClass Jvm.ClassFile.FieldType.byte ∈ lw_g := lw_m 170 (by decide +kernel) (by decide +kernel)
theorem k_171 : Jvm.Cond.fieldLink "ConicDesk$Moment" (12 : Nat) "ConicDesk$Moment" "sheet" "LConicDesk$Sheet;" ∈ lw_g := lw_m 171 (by decide +kernel) (by decide +kernel)
theorem k_172 : Jvm.Cond.fieldLink "ConicDesk" (111 : Nat) "ConicDesk$Moment" "sheet" "LConicDesk$Sheet;" ∈ lw_g := lw_m 172 (by decide +kernel) (by decide +kernel)
theorem k_173 : Jvm.Cond.fieldLink "ConicDesk$Moment" (21 : Nat) "ConicDesk$Moment" "tape" "LConicDesk$Tape;" ∈ lw_g := lw_m 173 (by decide +kernel) (by decide +kernel)
theorem k_174 : Jvm.Cond.fieldLink "ConicDesk" (85 : Nat) "ConicDesk$Moment" "tape" "LConicDesk$Tape;" ∈ lw_g := lw_m 174 (by decide +kernel) (by decide +kernel)
theorem k_175 : Jvm.Cond.fieldLink "ConicDesk$Moment" (25 : Nat) "ConicDesk$Moment" "fault" "I" ∈ lw_g := lw_m 175 (by decide +kernel) (by decide +kernel)
theorem k_176 : Jvm.Cond.fieldLink "ConicDesk" (106 : Nat) "ConicDesk$Moment" "fault" "I" ∈ lw_g := lw_m 176 (by decide +kernel) (by decide +kernel)
theorem k_177 : Jvm.Cond.fieldLink "ConicDesk$Moment" (29 : Nat) "ConicDesk$Moment" "faultPlace" "I" ∈ lw_g := lw_m 177 (by decide +kernel) (by decide +kernel)
theorem k_178 : Jvm.Cond.fieldLink "ConicDesk" (110 : Nat) "ConicDesk$Moment" "faultPlace" "I" ∈ lw_g := lw_m 178 (by decide +kernel) (by decide +kernel)
theorem k_179 : Jvm.Cond.fieldLink "ConicDesk$Moment" (32 : Nat) "ConicDesk$Moment" "reason" "I" ∈ lw_g := lw_m 179 (by decide +kernel) (by decide +kernel)
theorem k_180 : Jvm.Cond.fieldLink "ConicDesk" (222 : Nat) "ConicDesk$Moment" "reason" "I" ∈ lw_g := lw_m 180 (by decide +kernel) (by decide +kernel)
theorem k_181 : Jvm.Cond.fieldLink "ConicDesk$Moment" (35 : Nat) "ConicDesk$Moment" "cause" "I" ∈ lw_g := lw_m 181 (by decide +kernel) (by decide +kernel)
theorem k_182 : Jvm.Cond.fieldLink "ConicDesk" (225 : Nat) "ConicDesk$Moment" "cause" "I" ∈ lw_g := lw_m 182 (by decide +kernel) (by decide +kernel)
theorem k_196 : Jvm.Cond.classLink "ConicDesk" (16 : Nat) "ConicDesk$Past" ∈ lw_g := lw_m 196 (by decide +kernel) (by decide +kernel)
theorem k_197 : Jvm.Cond.instantiable "ConicDesk$Past" (3 : Nat) ∈ lw_g := lw_m 197 (by decide +kernel) (by decide +kernel)
theorem k_198 : Jvm.Cond.methodLink "ConicDesk" (18 : Nat) ({ cls := "ConicDesk$Past", name := "<init>", desc := "()V" } : Jvm.MethodName) ∈ lw_g := lw_m 198 (by decide +kernel) (by decide +kernel)
theorem k_199 : Jvm.Cond.instanceMethod ({ cls := "ConicDesk$Past", name := "<init>", desc := "()V" } : Jvm.MethodName) ∈ lw_g := lw_m 199 (by decide +kernel) (by decide +kernel)
theorem k_200 : Jvm.Cond.code ({ cls := "ConicDesk$Past", name := "<init>", desc := "()V" } : Jvm.MethodName) prog_7_method_1_code (2 : Nat) (Option.none : Option Jvm.ClassFile.FieldType) ∈ lw_g := lw_m 200 (by decide +kernel) (by decide +kernel)
theorem k_201 : Jvm.Cond.methodLink "ConicDesk$Past" (3 : Nat) ({ cls := "java/lang/Object", name := "<init>", desc := "()V" } : Jvm.MethodName) ∈ lw_g := lw_m 201 (by decide +kernel) (by decide +kernel)
theorem k_202 : Jvm.Cond.classLink "ConicDesk$Past" (9 : Nat) "ConicDesk$Sheet" ∈ lw_g := lw_m 202 (by decide +kernel) (by decide +kernel)
theorem k_204 : Jvm.Cond.methodLink "ConicDesk$Past" (24 : Nat) ({ cls := "ConicDesk$Sheet", name := "<init>", desc := "()V" } : Jvm.MethodName) ∈ lw_g := lw_m 204 (by decide +kernel) (by decide +kernel)
theorem k_205 : Jvm.Cond.fieldLink "ConicDesk$Past" (11 : Nat) "ConicDesk$Past" "ring" "[LConicDesk$Sheet;" ∈ lw_g := lw_m 205 (by decide +kernel) (by decide +kernel)
theorem k_206 : Jvm.Cond.fieldLink "ConicDesk$Past" (17 : Nat) "ConicDesk$Past" "next" "I" ∈ lw_g := lw_m 206 (by decide +kernel) (by decide +kernel)
theorem k_207 : Jvm.Cond.fieldLink "ConicDesk$Past" (21 : Nat) "ConicDesk$Past" "size" "I" ∈ lw_g := lw_m 207 (by decide +kernel) (by decide +kernel)
theorem k_208 : Jvm.Cond.fieldLink "ConicDesk" (232 : Nat) "ConicDesk$Past" "size" "I" ∈ lw_g := lw_m 208 (by decide +kernel) (by decide +kernel)
theorem k_217 : Jvm.Cond.classLink "ConicDesk" (31 : Nat) "ConicDesk$Reader" ∈ lw_g := lw_m 217 (by decide +kernel) (by decide +kernel)
theorem k_218 : Jvm.Cond.instantiable "ConicDesk$Reader" (9 : Nat) ∈ lw_g := lw_m 218 (by decide +kernel) (by decide +kernel)
theorem k_219 : (("ConicDesk", 33, ({ cls := "ConicDesk$Reader", name := "<init>", desc := "()V" } : Jvm.MethodName), "ConicDesk") : String × Nat × MethodName × String) ∈ nestL := nest_m 219 (by decide +kernel)
theorem k_220 : Jvm.Cond.instanceMethod ({ cls := "ConicDesk$Reader", name := "<init>", desc := "()V" } : Jvm.MethodName) ∈ lw_g := lw_m 220 (by decide +kernel) (by decide +kernel)
theorem k_221 : Jvm.Cond.code ({ cls := "ConicDesk$Reader", name := "<init>", desc := "()V" } : Jvm.MethodName) prog_9_method_1_code (1 : Nat) (Option.none : Option Jvm.ClassFile.FieldType) ∈ lw_g := lw_m 221 (by decide +kernel) (by decide +kernel)
theorem k_222 : Jvm.Cond.methodLink "ConicDesk$Reader" (3 : Nat) ({ cls := "java/lang/Object", name := "<init>", desc := "()V" } : Jvm.MethodName) ∈ lw_g := lw_m 222 (by decide +kernel) (by decide +kernel)
theorem k_223 : Jvm.Cond.classLink "ConicDesk$Reader" (9 : Nat) "ConicDesk$Sheet" ∈ lw_g := lw_m 223 (by decide +kernel) (by decide +kernel)
theorem k_224 : Jvm.Cond.methodLink "ConicDesk$Reader" (11 : Nat) ({ cls := "ConicDesk$Sheet", name := "<init>", desc := "()V" } : Jvm.MethodName) ∈ lw_g := lw_m 224 (by decide +kernel) (by decide +kernel)
theorem k_225 : Jvm.Cond.classLink "ConicDesk$Reader" (25 : Nat) "ConicDesk$Form" ∈ lw_g := lw_m 225 (by decide +kernel) (by decide +kernel)
theorem k_226 : Jvm.Cond.instantiable "ConicDesk$Form" (6 : Nat) ∈ lw_g := lw_m 226 (by decide +kernel) (by decide +kernel)
theorem k_227 : (("ConicDesk$Reader", 27, ({ cls := "ConicDesk$Form", name := "<init>", desc := "()V" } : Jvm.MethodName), "ConicDesk") : String × Nat × MethodName × String) ∈ nestL := nest_m 227 (by decide +kernel)
theorem k_228 : Jvm.Cond.instanceMethod ({ cls := "ConicDesk$Form", name := "<init>", desc := "()V" } : Jvm.MethodName) ∈ lw_g := lw_m 228 (by decide +kernel) (by decide +kernel)
theorem k_229 : Jvm.Cond.code ({ cls := "ConicDesk$Form", name := "<init>", desc := "()V" } : Jvm.MethodName) prog_5_method_1_code (1 : Nat) (Option.none : Option Jvm.ClassFile.FieldType) ∈ lw_g := lw_m 229 (by decide +kernel) (by decide +kernel)
theorem k_230 : Jvm.Cond.methodLink "ConicDesk$Form" (1 : Nat) ({ cls := "java/lang/Object", name := "<init>", desc := "()V" } : Jvm.MethodName) ∈ lw_g := lw_m 230 (by decide +kernel) (by decide +kernel)
theorem k_231 : Jvm.Cond.fieldLink "ConicDesk$Form" (7 : Nat) "ConicDesk$Form" "a" "I" ∈ lw_g := lw_m 231 (by decide +kernel) (by decide +kernel)
theorem k_232 : Jvm.Cond.fieldLink "ConicDesk$Curve" (44 : Nat) "ConicDesk$Form" "a" "I" ∈ lw_g := lw_m 232 (by decide +kernel) (by decide +kernel)
theorem k_233 : Jvm.Cond.fieldLink "ConicDesk$Form" (13 : Nat) "ConicDesk$Form" "b" "I" ∈ lw_g := lw_m 233 (by decide +kernel) (by decide +kernel)
theorem k_234 : Jvm.Cond.fieldLink "ConicDesk$Curve" (35 : Nat) "ConicDesk$Form" "b" "I" ∈ lw_g := lw_m 234 (by decide +kernel) (by decide +kernel)
theorem k_235 : Jvm.Cond.fieldLink "ConicDesk$Form" (16 : Nat) "ConicDesk$Form" "c" "I" ∈ lw_g := lw_m 235 (by decide +kernel) (by decide +kernel)
theorem k_236 : Jvm.Cond.fieldLink "ConicDesk$Curve" (38 : Nat) "ConicDesk$Form" "c" "I" ∈ lw_g := lw_m 236 (by decide +kernel) (by decide +kernel)
theorem k_237 : Jvm.Cond.fieldLink "ConicDesk$Form" (19 : Nat) "ConicDesk$Form" "f" "I" ∈ lw_g := lw_m 237 (by decide +kernel) (by decide +kernel)
theorem k_238 : Jvm.Cond.fieldLink "ConicDesk$Curve" (41 : Nat) "ConicDesk$Form" "f" "I" ∈ lw_g := lw_m 238 (by decide +kernel) (by decide +kernel)
theorem k_239 : Jvm.Cond.fieldLink "ConicDesk$Form" (22 : Nat) "ConicDesk$Form" "g" "I" ∈ lw_g := lw_m 239 (by decide +kernel) (by decide +kernel)
theorem k_240 : Jvm.Cond.fieldLink "ConicDesk$Curve" (47 : Nat) "ConicDesk$Form" "g" "I" ∈ lw_g := lw_m 240 (by decide +kernel) (by decide +kernel)
theorem k_241 : Jvm.Cond.fieldLink "ConicDesk$Form" (25 : Nat) "ConicDesk$Form" "h" "I" ∈ lw_g := lw_m 241 (by decide +kernel) (by decide +kernel)
theorem k_242 : Jvm.Cond.fieldLink "ConicDesk$Curve" (50 : Nat) "ConicDesk$Form" "h" "I" ∈ lw_g := lw_m 242 (by decide +kernel) (by decide +kernel)
theorem k_256 : Jvm.Cond.arrayClass Jvm.ClassFile.FieldType.boolean ∈ lw_g := lw_m 256 (by decide +kernel) (by decide +kernel)
theorem k_257 : Jvm.Cond.classLink "ConicDesk$Reader" (32 : Nat) "ConicDesk$Triple" ∈ lw_g := lw_m 257 (by decide +kernel) (by decide +kernel)
theorem k_258 : Jvm.Cond.instantiable "ConicDesk$Triple" (3 : Nat) ∈ lw_g := lw_m 258 (by decide +kernel) (by decide +kernel)
theorem k_259 : (("ConicDesk$Reader", 34, ({ cls := "ConicDesk$Triple", name := "<init>", desc := "()V" } : Jvm.MethodName), "ConicDesk") : String × Nat × MethodName × String) ∈ nestL := nest_m 259 (by decide +kernel)
theorem k_260 : Jvm.Cond.instanceMethod ({ cls := "ConicDesk$Triple", name := "<init>", desc := "()V" } : Jvm.MethodName) ∈ lw_g := lw_m 260 (by decide +kernel) (by decide +kernel)
theorem k_261 : Jvm.Cond.code ({ cls := "ConicDesk$Triple", name := "<init>", desc := "()V" } : Jvm.MethodName) prog_12_method_1_code (1 : Nat) (Option.none : Option Jvm.ClassFile.FieldType) ∈ lw_g := lw_m 261 (by decide +kernel) (by decide +kernel)
theorem k_262 : Jvm.Cond.methodLink "ConicDesk$Triple" (3 : Nat) ({ cls := "java/lang/Object", name := "<init>", desc := "()V" } : Jvm.MethodName) ∈ lw_g := lw_m 262 (by decide +kernel) (by decide +kernel)
theorem k_263 : Jvm.Cond.fieldLink "ConicDesk$Triple" (9 : Nat) "ConicDesk$Triple" "x" "I" ∈ lw_g := lw_m 263 (by decide +kernel) (by decide +kernel)
theorem k_264 : Jvm.Cond.fieldLink "ConicDesk$Curve" (65 : Nat) "ConicDesk$Triple" "x" "I" ∈ lw_g := lw_m 264 (by decide +kernel) (by decide +kernel)
theorem k_265 : Jvm.Cond.fieldLink "ConicDesk$Triple" (15 : Nat) "ConicDesk$Triple" "y" "I" ∈ lw_g := lw_m 265 (by decide +kernel) (by decide +kernel)
theorem k_266 : Jvm.Cond.fieldLink "ConicDesk$Curve" (70 : Nat) "ConicDesk$Triple" "y" "I" ∈ lw_g := lw_m 266 (by decide +kernel) (by decide +kernel)
theorem k_267 : Jvm.Cond.fieldLink "ConicDesk$Triple" (18 : Nat) "ConicDesk$Triple" "z" "I" ∈ lw_g := lw_m 267 (by decide +kernel) (by decide +kernel)
theorem k_268 : Jvm.Cond.fieldLink "ConicDesk$Curve" (73 : Nat) "ConicDesk$Triple" "z" "I" ∈ lw_g := lw_m 268 (by decide +kernel) (by decide +kernel)
theorem k_276 : Jvm.Cond.fieldLink "ConicDesk$Reader" (12 : Nat) "ConicDesk$Reader" "draft" "LConicDesk$Sheet;" ∈ lw_g := lw_m 276 (by decide +kernel) (by decide +kernel)
theorem k_277 : Jvm.Cond.fieldLink "ConicDesk" (115 : Nat) "ConicDesk$Reader" "draft" "LConicDesk$Sheet;" ∈ lw_g := lw_m 277 (by decide +kernel) (by decide +kernel)
theorem k_278 : Jvm.Cond.fieldLink "ConicDesk$Reader" (18 : Nat) "ConicDesk$Reader" "fault" "I" ∈ lw_g := lw_m 278 (by decide +kernel) (by decide +kernel)
theorem k_279 : Jvm.Cond.fieldLink "ConicDesk" (103 : Nat) "ConicDesk$Reader" "fault" "I" ∈ lw_g := lw_m 279 (by decide +kernel) (by decide +kernel)
theorem k_280 : Jvm.Cond.fieldLink "ConicDesk$Reader" (22 : Nat) "ConicDesk$Reader" "faultPlace" "I" ∈ lw_g := lw_m 280 (by decide +kernel) (by decide +kernel)
theorem k_281 : Jvm.Cond.fieldLink "ConicDesk" (107 : Nat) "ConicDesk$Reader" "faultPlace" "I" ∈ lw_g := lw_m 281 (by decide +kernel) (by decide +kernel)
theorem k_282 : Jvm.Cond.fieldLink "ConicDesk$Reader" (28 : Nat) "ConicDesk$Reader" "form" "LConicDesk$Form;" ∈ lw_g := lw_m 282 (by decide +kernel) (by decide +kernel)
theorem k_283 : Jvm.Cond.fieldLink "ConicDesk$Reader" (35 : Nat) "ConicDesk$Reader" "spot" "LConicDesk$Triple;" ∈ lw_g := lw_m 283 (by decide +kernel) (by decide +kernel)
theorem k_284 : Jvm.Cond.fieldLink "ConicDesk$Reader" (39 : Nat) "ConicDesk$Reader" "at" "I" ∈ lw_g := lw_m 284 (by decide +kernel) (by decide +kernel)
theorem k_285 : Jvm.Cond.fieldLink "ConicDesk$Reader" (42 : Nat) "ConicDesk$Reader" "token" "I" ∈ lw_g := lw_m 285 (by decide +kernel) (by decide +kernel)
theorem k_286 : Jvm.Cond.fieldLink "ConicDesk$Reader" (45 : Nat) "ConicDesk$Reader" "start" "I" ∈ lw_g := lw_m 286 (by decide +kernel) (by decide +kernel)
theorem k_287 : Jvm.Cond.fieldLink "ConicDesk$Reader" (48 : Nat) "ConicDesk$Reader" "value" "I" ∈ lw_g := lw_m 287 (by decide +kernel) (by decide +kernel)
theorem k_307 : Jvm.Cond.classLink "ConicDesk" (38 : Nat) "ConicDesk$Pencil" ∈ lw_g := lw_m 307 (by decide +kernel) (by decide +kernel)
theorem k_308 : Jvm.Cond.instantiable "ConicDesk$Pencil" (5 : Nat) ∈ lw_g := lw_m 308 (by decide +kernel) (by decide +kernel)
theorem k_309 : (("ConicDesk", 40, ({ cls := "ConicDesk$Pencil", name := "<init>", desc := "()V" } : Jvm.MethodName), "ConicDesk") : String × Nat × MethodName × String) ∈ nestL := nest_m 309 (by decide +kernel)
theorem k_310 : Jvm.Cond.instanceMethod ({ cls := "ConicDesk$Pencil", name := "<init>", desc := "()V" } : Jvm.MethodName) ∈ lw_g := lw_m 310 (by decide +kernel) (by decide +kernel)
theorem k_311 : Jvm.Cond.code ({ cls := "ConicDesk$Pencil", name := "<init>", desc := "()V" } : Jvm.MethodName) prog_8_method_1_code (1 : Nat) (Option.none : Option Jvm.ClassFile.FieldType) ∈ lw_g := lw_m 311 (by decide +kernel) (by decide +kernel)
theorem k_312 : Jvm.Cond.methodLink "ConicDesk$Pencil" (3 : Nat) ({ cls := "java/lang/Object", name := "<init>", desc := "()V" } : Jvm.MethodName) ∈ lw_g := lw_m 312 (by decide +kernel) (by decide +kernel)
theorem k_313 : Jvm.Cond.classLink "ConicDesk$Pencil" (9 : Nat) "ConicDesk$Curve" ∈ lw_g := lw_m 313 (by decide +kernel) (by decide +kernel)
theorem k_314 : Jvm.Cond.instantiable "ConicDesk$Curve" (2 : Nat) ∈ lw_g := lw_m 314 (by decide +kernel) (by decide +kernel)
theorem k_315 : (("ConicDesk$Pencil", 11, ({ cls := "ConicDesk$Curve", name := "<init>", desc := "()V" } : Jvm.MethodName), "ConicDesk") : String × Nat × MethodName × String) ∈ nestL := nest_m 315 (by decide +kernel)
theorem k_316 : Jvm.Cond.instanceMethod ({ cls := "ConicDesk$Curve", name := "<init>", desc := "()V" } : Jvm.MethodName) ∈ lw_g := lw_m 316 (by decide +kernel) (by decide +kernel)
theorem k_317 : Jvm.Cond.code ({ cls := "ConicDesk$Curve", name := "<init>", desc := "()V" } : Jvm.MethodName) prog_2_method_1_code (1 : Nat) (Option.none : Option Jvm.ClassFile.FieldType) ∈ lw_g := lw_m 317 (by decide +kernel) (by decide +kernel)
theorem k_318 : Jvm.Cond.methodLink "ConicDesk$Curve" (3 : Nat) ({ cls := "java/lang/Object", name := "<init>", desc := "()V" } : Jvm.MethodName) ∈ lw_g := lw_m 318 (by decide +kernel) (by decide +kernel)
theorem k_319 : Jvm.Cond.classLink "ConicDesk$Curve" (9 : Nat) "ConicDesk$Form" ∈ lw_g := lw_m 319 (by decide +kernel) (by decide +kernel)
theorem k_320 : (("ConicDesk$Curve", 11, ({ cls := "ConicDesk$Form", name := "<init>", desc := "()V" } : Jvm.MethodName), "ConicDesk") : String × Nat × MethodName × String) ∈ nestL := nest_m 320 (by decide +kernel)
theorem k_321 : Jvm.Cond.fieldLink "ConicDesk$Curve" (12 : Nat) "ConicDesk$Curve" "form" "LConicDesk$Form;" ∈ lw_g := lw_m 321 (by decide +kernel) (by decide +kernel)
theorem k_322 : Jvm.Cond.fieldLink "ConicDesk$Pencil" (38 : Nat) "ConicDesk$Curve" "form" "LConicDesk$Form;" ∈ lw_g := lw_m 322 (by decide +kernel) (by decide +kernel)
theorem k_323 : Jvm.Cond.fieldLink "ConicDesk$Family" (37 : Nat) "ConicDesk$Curve" "form" "LConicDesk$Form;" ∈ lw_g := lw_m 323 (by decide +kernel) (by decide +kernel)
theorem k_324 : Jvm.Cond.fieldLink "ConicDesk" (187 : Nat) "ConicDesk$Curve" "form" "LConicDesk$Form;" ∈ lw_g := lw_m 324 (by decide +kernel) (by decide +kernel)
theorem k_325 : Jvm.Cond.fieldLink "ConicDesk$Curve" (18 : Nat) "ConicDesk$Curve" "p" "I" ∈ lw_g := lw_m 325 (by decide +kernel) (by decide +kernel)
theorem k_326 : Jvm.Cond.fieldLink "ConicDesk$Family" (34 : Nat) "ConicDesk$Curve" "p" "I" ∈ lw_g := lw_m 326 (by decide +kernel) (by decide +kernel)
theorem k_327 : Jvm.Cond.fieldLink "ConicDesk$Pencil" (52 : Nat) "ConicDesk$Curve" "p" "I" ∈ lw_g := lw_m 327 (by decide +kernel) (by decide +kernel)
theorem k_333 : Jvm.Cond.classLink "ConicDesk$Pencil" (24 : Nat) "ConicDesk$Triple" ∈ lw_g := lw_m 333 (by decide +kernel) (by decide +kernel)
theorem k_334 : (("ConicDesk$Pencil", 26, ({ cls := "ConicDesk$Triple", name := "<init>", desc := "()V" } : Jvm.MethodName), "ConicDesk") : String × Nat × MethodName × String) ∈ nestL := nest_m 334 (by decide +kernel)
theorem k_335 : Jvm.Cond.fieldLink "ConicDesk$Pencil" (12 : Nat) "ConicDesk$Pencil" "one" "LConicDesk$Curve;" ∈ lw_g := lw_m 335 (by decide +kernel) (by decide +kernel)
theorem k_336 : Jvm.Cond.fieldLink "ConicDesk$Pencil" (18 : Nat) "ConicDesk$Pencil" "other" "LConicDesk$Curve;" ∈ lw_g := lw_m 336 (by decide +kernel) (by decide +kernel)
theorem k_337 : Jvm.Cond.fieldLink "ConicDesk$Pencil" (21 : Nat) "ConicDesk$Pencil" "mixed" "LConicDesk$Curve;" ∈ lw_g := lw_m 337 (by decide +kernel) (by decide +kernel)
theorem k_338 : Jvm.Cond.fieldLink "ConicDesk" (299 : Nat) "ConicDesk$Pencil" "mixed" "LConicDesk$Curve;" ∈ lw_g := lw_m 338 (by decide +kernel) (by decide +kernel)
theorem k_339 : Jvm.Cond.fieldLink "ConicDesk$Pencil" (27 : Nat) "ConicDesk$Pencil" "spot" "LConicDesk$Triple;" ∈ lw_g := lw_m 339 (by decide +kernel) (by decide +kernel)
theorem k_340 : Jvm.Cond.fieldLink "ConicDesk$Pencil" (31 : Nat) "ConicDesk$Pencil" "line" "LConicDesk$Triple;" ∈ lw_g := lw_m 340 (by decide +kernel) (by decide +kernel)
theorem k_352 : Jvm.Cond.classLink "ConicDesk" (45 : Nat) "ConicDesk$Family" ∈ lw_g := lw_m 352 (by decide +kernel) (by decide +kernel)
theorem k_353 : Jvm.Cond.instantiable "ConicDesk$Family" (3 : Nat) ∈ lw_g := lw_m 353 (by decide +kernel) (by decide +kernel)
theorem k_354 : Jvm.Cond.methodLink "ConicDesk" (47 : Nat) ({ cls := "ConicDesk$Family", name := "<init>", desc := "()V" } : Jvm.MethodName) ∈ lw_g := lw_m 354 (by decide +kernel) (by decide +kernel)
theorem k_355 : Jvm.Cond.instanceMethod ({ cls := "ConicDesk$Family", name := "<init>", desc := "()V" } : Jvm.MethodName) ∈ lw_g := lw_m 355 (by decide +kernel) (by decide +kernel)
theorem k_356 : Jvm.Cond.code ({ cls := "ConicDesk$Family", name := "<init>", desc := "()V" } : Jvm.MethodName) prog_3_method_1_code (2 : Nat) (Option.none : Option Jvm.ClassFile.FieldType) ∈ lw_g := lw_m 356 (by decide +kernel) (by decide +kernel)
theorem k_357 : Jvm.Cond.methodLink "ConicDesk$Family" (3 : Nat) ({ cls := "java/lang/Object", name := "<init>", desc := "()V" } : Jvm.MethodName) ∈ lw_g := lw_m 357 (by decide +kernel) (by decide +kernel)
theorem k_358 : Jvm.Cond.classLink "ConicDesk$Family" (9 : Nat) "ConicDesk$Curve" ∈ lw_g := lw_m 358 (by decide +kernel) (by decide +kernel)
theorem k_360 : Jvm.Cond.classLink "ConicDesk$Family" (17 : Nat) "ConicDesk$Triple" ∈ lw_g := lw_m 360 (by decide +kernel) (by decide +kernel)
theorem k_361 : (("ConicDesk$Family", 19, ({ cls := "ConicDesk$Triple", name := "<init>", desc := "()V" } : Jvm.MethodName), "ConicDesk") : String × Nat × MethodName × String) ∈ nestL := nest_m 361 (by decide +kernel)
theorem k_362 : (("ConicDesk$Family", 28, ({ cls := "ConicDesk$Curve", name := "<init>", desc := "()V" } : Jvm.MethodName), "ConicDesk") : String × Nat × MethodName × String) ∈ nestL := nest_m 362 (by decide +kernel)
theorem k_363 : Jvm.Cond.fieldLink "ConicDesk$Family" (11 : Nat) "ConicDesk$Family" "base" "[LConicDesk$Curve;" ∈ lw_g := lw_m 363 (by decide +kernel) (by decide +kernel)
theorem k_364 : Jvm.Cond.fieldLink "ConicDesk$Family" (20 : Nat) "ConicDesk$Family" "spot" "LConicDesk$Triple;" ∈ lw_g := lw_m 364 (by decide +kernel) (by decide +kernel)
theorem k_365 : Jvm.Cond.fieldLink "ConicDesk$Family" (24 : Nat) "ConicDesk$Family" "free" "I" ∈ lw_g := lw_m 365 (by decide +kernel) (by decide +kernel)
theorem k_366 : Jvm.Cond.fieldLink "ConicDesk" (201 : Nat) "ConicDesk$Family" "free" "I" ∈ lw_g := lw_m 366 (by decide +kernel) (by decide +kernel)
theorem k_374 : Jvm.Cond.classLink "ConicDesk" (52 : Nat) "ConicDesk$Curve" ∈ lw_g := lw_m 374 (by decide +kernel) (by decide +kernel)
theorem k_375 : (("ConicDesk", 54, ({ cls := "ConicDesk$Curve", name := "<init>", desc := "()V" } : Jvm.MethodName), "ConicDesk") : String × Nat × MethodName × String) ∈ nestL := nest_m 375 (by decide +kernel)
theorem k_376 : Jvm.Cond.classLink "ConicDesk" (62 : Nat) "ConicDesk$Form" ∈ lw_g := lw_m 376 (by decide +kernel) (by decide +kernel)
theorem k_377 : (("ConicDesk", 64, ({ cls := "ConicDesk$Form", name := "<init>", desc := "()V" } : Jvm.MethodName), "ConicDesk") : String × Nat × MethodName × String) ∈ nestL := nest_m 377 (by decide +kernel)
theorem k_378 : Jvm.Cond.classLink "ConicDesk" (72 : Nat) "ConicDesk$Triple" ∈ lw_g := lw_m 378 (by decide +kernel) (by decide +kernel)
theorem k_379 : (("ConicDesk", 74, ({ cls := "ConicDesk$Triple", name := "<init>", desc := "()V" } : Jvm.MethodName), "ConicDesk") : String × Nat × MethodName × String) ∈ nestL := nest_m 379 (by decide +kernel)
theorem k_380 : Jvm.Cond.fieldLink "ConicDesk" (10 : Nat) "ConicDesk" "now" "LConicDesk$Moment;" ∈ lw_g := lw_m 380 (by decide +kernel) (by decide +kernel)
theorem k_381 : Jvm.Cond.fieldLink "ConicDesk" (19 : Nat) "ConicDesk" "past" "LConicDesk$Past;" ∈ lw_g := lw_m 381 (by decide +kernel) (by decide +kernel)
theorem k_382 : Jvm.Cond.fieldLink "ConicDesk" (23 : Nat) "ConicDesk" "images" "[LConicDesk$Moment;" ∈ lw_g := lw_m 382 (by decide +kernel) (by decide +kernel)
theorem k_383 : Jvm.Cond.fieldLink "ConicDesk" (27 : Nat) "ConicDesk" "taken" "[Z" ∈ lw_g := lw_m 383 (by decide +kernel) (by decide +kernel)
theorem k_384 : Jvm.Cond.fieldLink "ConicDesk" (34 : Nat) "ConicDesk" "reader" "LConicDesk$Reader;" ∈ lw_g := lw_m 384 (by decide +kernel) (by decide +kernel)
theorem k_385 : Jvm.Cond.fieldLink "ConicDesk" (41 : Nat) "ConicDesk" "bundle" "LConicDesk$Pencil;" ∈ lw_g := lw_m 385 (by decide +kernel) (by decide +kernel)
theorem k_386 : Jvm.Cond.fieldLink "ConicDesk" (48 : Nat) "ConicDesk" "family" "LConicDesk$Family;" ∈ lw_g := lw_m 386 (by decide +kernel) (by decide +kernel)
theorem k_387 : Jvm.Cond.fieldLink "ConicDesk" (55 : Nat) "ConicDesk" "curve" "LConicDesk$Curve;" ∈ lw_g := lw_m 387 (by decide +kernel) (by decide +kernel)
theorem k_388 : Jvm.Cond.fieldLink "ConicDesk" (59 : Nat) "ConicDesk" "dual" "LConicDesk$Curve;" ∈ lw_g := lw_m 388 (by decide +kernel) (by decide +kernel)
theorem k_389 : Jvm.Cond.fieldLink "ConicDesk" (65 : Nat) "ConicDesk" "form" "LConicDesk$Form;" ∈ lw_g := lw_m 389 (by decide +kernel) (by decide +kernel)
theorem k_390 : Jvm.Cond.fieldLink "ConicDesk" (69 : Nat) "ConicDesk" "otherForm" "LConicDesk$Form;" ∈ lw_g := lw_m 390 (by decide +kernel) (by decide +kernel)
theorem k_391 : Jvm.Cond.fieldLink "ConicDesk" (75 : Nat) "ConicDesk" "spot" "LConicDesk$Triple;" ∈ lw_g := lw_m 391 (by decide +kernel) (by decide +kernel)
theorem k_392 : Jvm.Cond.fieldLink "ConicDesk" (79 : Nat) "ConicDesk" "otherSpot" "LConicDesk$Triple;" ∈ lw_g := lw_m 392 (by decide +kernel) (by decide +kernel)
theorem k_393 : Jvm.Cond.fieldLink "ConicDesk" (82 : Nat) "ConicDesk" "edge" "LConicDesk$Triple;" ∈ lw_g := lw_m 393 (by decide +kernel) (by decide +kernel)
theorem k_423 : Jvm.Cond.methodLink "ConicDeskLaw" (13 : Nat) ({ cls := "ConicDesk", name := "feed", desc := "(IIIII)I" } : Jvm.MethodName) ∈ lw_g := lw_m 423 (by decide +kernel) (by decide +kernel)
theorem k_424 : Jvm.Cond.instanceMethod ({ cls := "ConicDesk", name := "feed", desc := "(IIIII)I" } : Jvm.MethodName) ∈ lw_g := lw_m 424 (by decide +kernel) (by decide +kernel)
theorem k_425 : Jvm.Cond.selects "ConicDesk" ({ cls := "ConicDesk", name := "feed", desc := "(IIIII)I" } : Jvm.MethodName) ({ cls := "ConicDesk", name := "feed", desc := "(IIIII)I" } : Jvm.MethodName) ∈ lw_g := lw_m 425 (by decide +kernel) (by decide +kernel)
theorem k_426 : Jvm.Cond.code ({ cls := "ConicDesk", name := "feed", desc := "(IIIII)I" } : Jvm.MethodName) prog_1_method_2_code (6 : Nat) (Option.some Jvm.ClassFile.FieldType.int) ∈ lw_g := lw_m 426 (by decide +kernel) (by decide +kernel)
theorem k_427 : Jvm.Cond.methodLink "ConicDesk" (95 : Nat) ({ cls := "ConicDesk$Tape", name := "addFour", desc := "(I)V" } : Jvm.MethodName) ∈ lw_g := lw_m 427 (by decide +kernel) (by decide +kernel)
theorem k_428 : Jvm.Cond.instanceMethod ({ cls := "ConicDesk$Tape", name := "addFour", desc := "(I)V" } : Jvm.MethodName) ∈ lw_g := lw_m 428 (by decide +kernel) (by decide +kernel)
theorem k_429 : Jvm.Cond.selects "ConicDesk$Tape" ({ cls := "ConicDesk$Tape", name := "addFour", desc := "(I)V" } : Jvm.MethodName) ({ cls := "ConicDesk$Tape", name := "addFour", desc := "(I)V" } : Jvm.MethodName) ∈ lw_g := lw_m 429 (by decide +kernel) (by decide +kernel)
theorem k_430 : Jvm.Cond.code ({ cls := "ConicDesk$Tape", name := "addFour", desc := "(I)V" } : Jvm.MethodName) prog_11_method_2_code (3 : Nat) (Option.none : Option Jvm.ClassFile.FieldType) ∈ lw_g := lw_m 430 (by decide +kernel) (by decide +kernel)
theorem k_431 : Jvm.Cond.methodLink "ConicDeskLaw" (18 : Nat) ({ cls := "ConicDesk", name := "end", desc := "(I)I" } : Jvm.MethodName) ∈ lw_g := lw_m 431 (by decide +kernel) (by decide +kernel)
theorem k_432 : Jvm.Cond.instanceMethod ({ cls := "ConicDesk", name := "end", desc := "(I)I" } : Jvm.MethodName) ∈ lw_g := lw_m 432 (by decide +kernel) (by decide +kernel)
theorem k_433 : Jvm.Cond.selects "ConicDesk" ({ cls := "ConicDesk", name := "end", desc := "(I)I" } : Jvm.MethodName) ({ cls := "ConicDesk", name := "end", desc := "(I)I" } : Jvm.MethodName) ∈ lw_g := lw_m 433 (by decide +kernel) (by decide +kernel)
theorem k_434 : Jvm.Cond.code ({ cls := "ConicDesk", name := "end", desc := "(I)I" } : Jvm.MethodName) prog_1_method_3_code (2 : Nat) (Option.some Jvm.ClassFile.FieldType.int) ∈ lw_g := lw_m 434 (by decide +kernel) (by decide +kernel)
theorem k_435 : Jvm.Cond.methodLink "ConicDeskLaw" (23 : Nat) ({ cls := "ConicDesk", name := "text", desc := "()I" } : Jvm.MethodName) ∈ lw_g := lw_m 435 (by decide +kernel) (by decide +kernel)
theorem k_436 : Jvm.Cond.instanceMethod ({ cls := "ConicDesk", name := "text", desc := "()I" } : Jvm.MethodName) ∈ lw_g := lw_m 436 (by decide +kernel) (by decide +kernel)
theorem k_437 : Jvm.Cond.selects "ConicDesk" ({ cls := "ConicDesk", name := "text", desc := "()I" } : Jvm.MethodName) ({ cls := "ConicDesk", name := "text", desc := "()I" } : Jvm.MethodName) ∈ lw_g := lw_m 437 (by decide +kernel) (by decide +kernel)
theorem k_438 : Jvm.Cond.code ({ cls := "ConicDesk", name := "text", desc := "()I" } : Jvm.MethodName) prog_1_method_4_code (2 : Nat) (Option.some Jvm.ClassFile.FieldType.int) ∈ lw_g := lw_m 438 (by decide +kernel) (by decide +kernel)
theorem k_439 : Jvm.Cond.methodLink "ConicDesk" (99 : Nat) ({ cls := "ConicDesk$Reader", name := "read", desc := "(LConicDesk$Tape;)I" } : Jvm.MethodName) ∈ lw_g := lw_m 439 (by decide +kernel) (by decide +kernel)
theorem k_440 : Jvm.Cond.instanceMethod ({ cls := "ConicDesk$Reader", name := "read", desc := "(LConicDesk$Tape;)I" } : Jvm.MethodName) ∈ lw_g := lw_m 440 (by decide +kernel) (by decide +kernel)
theorem k_441 : Jvm.Cond.selects "ConicDesk$Reader" ({ cls := "ConicDesk$Reader", name := "read", desc := "(LConicDesk$Tape;)I" } : Jvm.MethodName) ({ cls := "ConicDesk$Reader", name := "read", desc := "(LConicDesk$Tape;)I" } : Jvm.MethodName) ∈ lw_g := lw_m 441 (by decide +kernel) (by decide +kernel)
theorem k_442 : Jvm.Cond.code ({ cls := "ConicDesk$Reader", name := "read", desc := "(LConicDesk$Tape;)I" } : Jvm.MethodName) prog_9_method_2_code (4 : Nat) (Option.some Jvm.ClassFile.FieldType.int) ∈ lw_g := lw_m 442 (by decide +kernel) (by decide +kernel)
theorem k_443 : Jvm.Cond.methodLink "ConicDesk$Reader" (51 : Nat) ({ cls := "ConicDesk$Sheet", name := "clear", desc := "()V" } : Jvm.MethodName) ∈ lw_g := lw_m 443 (by decide +kernel) (by decide +kernel)
theorem k_444 : Jvm.Cond.methodLink "ConicDesk$Reader" (54 : Nat) ({ cls := "ConicDesk$Reader", name := "advance", desc := "(LConicDesk$Tape;)V" } : Jvm.MethodName) ∈ lw_g := lw_m 444 (by decide +kernel) (by decide +kernel)
theorem k_446 : Jvm.Cond.instanceMethod ({ cls := "ConicDesk$Reader", name := "advance", desc := "(LConicDesk$Tape;)V" } : Jvm.MethodName) ∈ lw_g := lw_m 446 (by decide +kernel) (by decide +kernel)
theorem k_447 : Jvm.Cond.code ({ cls := "ConicDesk$Reader", name := "advance", desc := "(LConicDesk$Tape;)V" } : Jvm.MethodName) prog_9_method_9_code (3 : Nat) (Option.none : Option Jvm.ClassFile.FieldType) ∈ lw_g := lw_m 447 (by decide +kernel) (by decide +kernel)
theorem k_448 : Jvm.Cond.methodLink "ConicDesk$Reader" (134 : Nat) ({ cls := "ConicDesk$Reader", name := "skipBlanks", desc := "(LConicDesk$Tape;)V" } : Jvm.MethodName) ∈ lw_g := lw_m 448 (by decide +kernel) (by decide +kernel)
theorem k_450 : Jvm.Cond.instanceMethod ({ cls := "ConicDesk$Reader", name := "skipBlanks", desc := "(LConicDesk$Tape;)V" } : Jvm.MethodName) ∈ lw_g := lw_m 450 (by decide +kernel) (by decide +kernel)
theorem k_451 : Jvm.Cond.code ({ cls := "ConicDesk$Reader", name := "skipBlanks", desc := "(LConicDesk$Tape;)V" } : Jvm.MethodName) prog_9_method_10_code (4 : Nat) (Option.none : Option Jvm.ClassFile.FieldType) ∈ lw_g := lw_m 451 (by decide +kernel) (by decide +kernel)
theorem k_452 : Jvm.Cond.methodLink "ConicDesk$Reader" (137 : Nat) ({ cls := "ConicDesk$Tape", name := "byteAt", desc := "(I)I" } : Jvm.MethodName) ∈ lw_g := lw_m 452 (by decide +kernel) (by decide +kernel)
theorem k_453 : Jvm.Cond.instanceMethod ({ cls := "ConicDesk$Tape", name := "byteAt", desc := "(I)I" } : Jvm.MethodName) ∈ lw_g := lw_m 453 (by decide +kernel) (by decide +kernel)
theorem k_454 : Jvm.Cond.selects "ConicDesk$Tape" ({ cls := "ConicDesk$Tape", name := "byteAt", desc := "(I)I" } : Jvm.MethodName) ({ cls := "ConicDesk$Tape", name := "byteAt", desc := "(I)I" } : Jvm.MethodName) ∈ lw_g := lw_m 454 (by decide +kernel) (by decide +kernel)
theorem k_455 : Jvm.Cond.code ({ cls := "ConicDesk$Tape", name := "byteAt", desc := "(I)I" } : Jvm.MethodName) prog_11_method_3_code (2 : Nat) (Option.some Jvm.ClassFile.FieldType.int) ∈ lw_g := lw_m 455 (by decide +kernel) (by decide +kernel)
theorem k_456 : Jvm.Cond.methodLink "ConicDesk$Reader" (143 : Nat) ({ cls := "ConicDesk$Reader", name := "isLetter", desc := "(I)Z" } : Jvm.MethodName) ∈ lw_g := lw_m 456 (by decide +kernel) (by decide +kernel)
theorem k_457 : Jvm.Cond.static ({ cls := "ConicDesk$Reader", name := "isLetter", desc := "(I)Z" } : Jvm.MethodName) ∈ lw_g := lw_m 457 (by decide +kernel) (by decide +kernel)
theorem k_458 : Jvm.Cond.code ({ cls := "ConicDesk$Reader", name := "isLetter", desc := "(I)Z" } : Jvm.MethodName) prog_9_method_14_code (1 : Nat) (Option.some Jvm.ClassFile.FieldType.boolean) ∈ lw_g := lw_m 458 (by decide +kernel) (by decide +kernel)
theorem k_459 : Jvm.Cond.methodLink "ConicDesk$Reader" (146 : Nat) ({ cls := "ConicDesk$Reader", name := "takeWord", desc := "(LConicDesk$Tape;)V" } : Jvm.MethodName) ∈ lw_g := lw_m 459 (by decide +kernel) (by decide +kernel)
theorem k_461 : Jvm.Cond.instanceMethod ({ cls := "ConicDesk$Reader", name := "takeWord", desc := "(LConicDesk$Tape;)V" } : Jvm.MethodName) ∈ lw_g := lw_m 461 (by decide +kernel) (by decide +kernel)
theorem k_462 : Jvm.Cond.code ({ cls := "ConicDesk$Reader", name := "takeWord", desc := "(LConicDesk$Tape;)V" } : Jvm.MethodName) prog_9_method_11_code (3 : Nat) (Option.none : Option Jvm.ClassFile.FieldType) ∈ lw_g := lw_m 462 (by decide +kernel) (by decide +kernel)
theorem k_463 : Jvm.Cond.methodLink "ConicDesk$Reader" (149 : Nat) ({ cls := "ConicDesk$Reader", name := "isDigit", desc := "(I)Z" } : Jvm.MethodName) ∈ lw_g := lw_m 463 (by decide +kernel) (by decide +kernel)
theorem k_464 : Jvm.Cond.static ({ cls := "ConicDesk$Reader", name := "isDigit", desc := "(I)Z" } : Jvm.MethodName) ∈ lw_g := lw_m 464 (by decide +kernel) (by decide +kernel)
theorem k_465 : Jvm.Cond.code ({ cls := "ConicDesk$Reader", name := "isDigit", desc := "(I)Z" } : Jvm.MethodName) prog_9_method_15_code (1 : Nat) (Option.some Jvm.ClassFile.FieldType.boolean) ∈ lw_g := lw_m 465 (by decide +kernel) (by decide +kernel)
theorem k_466 : Jvm.Cond.methodLink "ConicDesk$Reader" (152 : Nat) ({ cls := "ConicDesk$Reader", name := "takeDigits", desc := "(LConicDesk$Tape;)V" } : Jvm.MethodName) ∈ lw_g := lw_m 466 (by decide +kernel) (by decide +kernel)
theorem k_468 : Jvm.Cond.instanceMethod ({ cls := "ConicDesk$Reader", name := "takeDigits", desc := "(LConicDesk$Tape;)V" } : Jvm.MethodName) ∈ lw_g := lw_m 468 (by decide +kernel) (by decide +kernel)
theorem k_469 : Jvm.Cond.code ({ cls := "ConicDesk$Reader", name := "takeDigits", desc := "(LConicDesk$Tape;)V" } : Jvm.MethodName) prog_9_method_12_code (3 : Nat) (Option.none : Option Jvm.ClassFile.FieldType) ∈ lw_g := lw_m 469 (by decide +kernel) (by decide +kernel)
theorem k_470 : Jvm.Cond.methodLink "ConicDesk$Reader" (58 : Nat) ({ cls := "ConicDesk$Reader", name := "readLine", desc := "(LConicDesk$Tape;)Z" } : Jvm.MethodName) ∈ lw_g := lw_m 470 (by decide +kernel) (by decide +kernel)
theorem k_472 : Jvm.Cond.instanceMethod ({ cls := "ConicDesk$Reader", name := "readLine", desc := "(LConicDesk$Tape;)Z" } : Jvm.MethodName) ∈ lw_g := lw_m 472 (by decide +kernel) (by decide +kernel)
theorem k_473 : Jvm.Cond.code ({ cls := "ConicDesk$Reader", name := "readLine", desc := "(LConicDesk$Tape;)Z" } : Jvm.MethodName) prog_9_method_4_code (5 : Nat) (Option.some Jvm.ClassFile.FieldType.boolean) ∈ lw_g := lw_m 473 (by decide +kernel) (by decide +kernel)
theorem k_474 : Jvm.Cond.methodLink "ConicDesk$Reader" (62 : Nat) ({ cls := "ConicDesk$Reader", name := "lineKind", desc := "(LConicDesk$Tape;)I" } : Jvm.MethodName) ∈ lw_g := lw_m 474 (by decide +kernel) (by decide +kernel)
theorem k_476 : Jvm.Cond.instanceMethod ({ cls := "ConicDesk$Reader", name := "lineKind", desc := "(LConicDesk$Tape;)I" } : Jvm.MethodName) ∈ lw_g := lw_m 476 (by decide +kernel) (by decide +kernel)
theorem k_477 : Jvm.Cond.code ({ cls := "ConicDesk$Reader", name := "lineKind", desc := "(LConicDesk$Tape;)I" } : Jvm.MethodName) prog_9_method_5_code (2 : Nat) (Option.some Jvm.ClassFile.FieldType.int) ∈ lw_g := lw_m 477 (by decide +kernel) (by decide +kernel)
theorem k_479 : Jvm.Cond.methodLink "ConicDesk$Reader" (81 : Nat) ({ cls := "ConicDesk$Reader", name := "tokenIs", desc := "(LConicDesk$Tape;Ljava/lang/String;)Z" } : Jvm.MethodName) ∈ lw_g := lw_m 479 (by decide +kernel) (by decide +kernel)
theorem k_481 : Jvm.Cond.instanceMethod ({ cls := "ConicDesk$Reader", name := "tokenIs", desc := "(LConicDesk$Tape;Ljava/lang/String;)Z" } : Jvm.MethodName) ∈ lw_g := lw_m 481 (by decide +kernel) (by decide +kernel)
theorem k_482 : Jvm.Cond.code ({ cls := "ConicDesk$Reader", name := "tokenIs", desc := "(LConicDesk$Tape;Ljava/lang/String;)Z" } : Jvm.MethodName) prog_9_method_13_code (4 : Nat) (Option.some Jvm.ClassFile.FieldType.boolean) ∈ lw_g := lw_m 482 (by decide +kernel) (by decide +kernel)
theorem k_483 : Jvm.Cond.methodLink "ConicDesk$Reader" (155 : Nat) ({ cls := "java/lang/String", name := "length", desc := "()I" } : Jvm.MethodName) ∈ lw_g := lw_m 483 (by decide +kernel) (by decide +kernel)
theorem k_484 : Jvm.Cond.instanceMethod ({ cls := "java/lang/String", name := "length", desc := "()I" } : Jvm.MethodName) ∈ lw_g := lw_m 484 (by decide +kernel) (by decide +kernel)
theorem k_485 : Jvm.Cond.selects "java/lang/String" ({ cls := "java/lang/String", name := "length", desc := "()I" } : Jvm.MethodName) ({ cls := "java/lang/String", name := "length", desc := "()I" } : Jvm.MethodName) ∈ lw_g := lw_m 485 (by decide +kernel) (by decide +kernel)
theorem k_486 : Jvm.Cond.code ({ cls := "java/lang/String", name := "length", desc := "()I" } : Jvm.MethodName) prog_16_method_54_code (1 : Nat) (Option.some Jvm.ClassFile.FieldType.int) ∈ lw_g := lw_m 486 (by decide +kernel) (by decide +kernel)
theorem k_487 : Jvm.Cond.methodLink "java/lang/String" (335 : Nat) ({ cls := "java/lang/String", name := "coder", desc := "()B" } : Jvm.MethodName) ∈ lw_g := lw_m 487 (by decide +kernel) (by decide +kernel)
theorem k_488 : Jvm.Cond.instanceMethod ({ cls := "java/lang/String", name := "coder", desc := "()B" } : Jvm.MethodName) ∈ lw_g := lw_m 488 (by decide +kernel) (by decide +kernel)
theorem k_489 : Jvm.Cond.selects "java/lang/String" ({ cls := "java/lang/String", name := "coder", desc := "()B" } : Jvm.MethodName) ({ cls := "java/lang/String", name := "coder", desc := "()B" } : Jvm.MethodName) ∈ lw_g := lw_m 489 (by decide +kernel) (by decide +kernel)
theorem k_490 : Jvm.Cond.code ({ cls := "java/lang/String", name := "coder", desc := "()B" } : Jvm.MethodName) prog_16_method_152_code (1 : Nat) (Option.some Jvm.ClassFile.FieldType.byte) ∈ lw_g := lw_m 490 (by decide +kernel) (by decide +kernel)
theorem k_491 : Jvm.Cond.fieldLink "java/lang/String" (38 : Nat) "java/lang/String" "COMPACT_STRINGS" "Z" ∈ lw_g := lw_m 491 (by decide +kernel) (by decide +kernel)
theorem k_493 : Jvm.Cond.methodLink "ConicDesk$Reader" (161 : Nat) ({ cls := "java/lang/String", name := "charAt", desc := "(I)C" } : Jvm.MethodName) ∈ lw_g := lw_m 493 (by decide +kernel) (by decide +kernel)
theorem k_494 : Jvm.Cond.instanceMethod ({ cls := "java/lang/String", name := "charAt", desc := "(I)C" } : Jvm.MethodName) ∈ lw_g := lw_m 494 (by decide +kernel) (by decide +kernel)
theorem k_495 : Jvm.Cond.selects "java/lang/String" ({ cls := "java/lang/String", name := "charAt", desc := "(I)C" } : Jvm.MethodName) ({ cls := "java/lang/String", name := "charAt", desc := "(I)C" } : Jvm.MethodName) ∈ lw_g := lw_m 495 (by decide +kernel) (by decide +kernel)
theorem k_496 : Jvm.Cond.code ({ cls := "java/lang/String", name := "charAt", desc := "(I)C" } : Jvm.MethodName) prog_16_method_56_code (2 : Nat) (Option.some Jvm.ClassFile.FieldType.char) ∈ lw_g := lw_m 496 (by decide +kernel) (by decide +kernel)
theorem k_497 : Jvm.Cond.methodLink "java/lang/String" (492 : Nat) ({ cls := "java/lang/String", name := "isLatin1", desc := "()Z" } : Jvm.MethodName) ∈ lw_g := lw_m 497 (by decide +kernel) (by decide +kernel)
theorem k_498 : Jvm.Cond.instanceMethod ({ cls := "java/lang/String", name := "isLatin1", desc := "()Z" } : Jvm.MethodName) ∈ lw_g := lw_m 498 (by decide +kernel) (by decide +kernel)
theorem k_499 : Jvm.Cond.selects "java/lang/String" ({ cls := "java/lang/String", name := "isLatin1", desc := "()Z" } : Jvm.MethodName) ({ cls := "java/lang/String", name := "isLatin1", desc := "()Z" } : Jvm.MethodName) ∈ lw_g := lw_m 499 (by decide +kernel) (by decide +kernel)
theorem k_500 : Jvm.Cond.code ({ cls := "java/lang/String", name := "isLatin1", desc := "()Z" } : Jvm.MethodName) prog_16_method_154_code (1 : Nat) (Option.some Jvm.ClassFile.FieldType.boolean) ∈ lw_g := lw_m 500 (by decide +kernel) (by decide +kernel)
theorem k_501 : Jvm.Cond.methodLink "java/lang/String" (495 : Nat) ({ cls := "java/lang/StringLatin1", name := "charAt", desc := "([BI)C" } : Jvm.MethodName) ∈ lw_g := lw_m 501 (by decide +kernel) (by decide +kernel)
theorem k_502 : Jvm.Cond.static ({ cls := "java/lang/StringLatin1", name := "charAt", desc := "([BI)C" } : Jvm.MethodName) ∈ lw_g := lw_m 502 (by decide +kernel) (by decide +kernel)
theorem k_503 : Jvm.Cond.code ({ cls := "java/lang/StringLatin1", name := "charAt", desc := "([BI)C" } : Jvm.MethodName) prog_17_method_2_code (2 : Nat) (Option.some Jvm.ClassFile.FieldType.char) ∈ lw_g := lw_m 503 (by decide +kernel) (by decide +kernel)
theorem k_504 : Jvm.Cond.methodLink "java/lang/StringLatin1" (9 : Nat) ({ cls := "java/lang/String", name := "checkIndex", desc := "(II)V" } : Jvm.MethodName) ∈ lw_g := lw_m 504 (by decide +kernel) (by decide +kernel)
theorem k_505 : Jvm.Cond.static ({ cls := "java/lang/String", name := "checkIndex", desc := "(II)V" } : Jvm.MethodName) ∈ lw_g := lw_m 505 (by decide +kernel) (by decide +kernel)
theorem k_506 : Jvm.Cond.code ({ cls := "java/lang/String", name := "checkIndex", desc := "(II)V" } : Jvm.MethodName) prog_16_method_155_code (2 : Nat) (Option.none : Option Jvm.ClassFile.FieldType) ∈ lw_g := lw_m 506 (by decide +kernel) (by decide +kernel)
theorem k_507 : Jvm.Cond.fieldLink "java/lang/String" (1053 : Nat) "jdk/internal/util/Preconditions" "SIOOBE_FORMATTER" "Ljava/util/function/BiFunction;" ∈ lw_g := lw_m 507 (by decide +kernel) (by decide +kernel)
theorem k_509 : Jvm.Cond.methodLink "java/lang/String" (1059 : Nat) ({ cls := "jdk/internal/util/Preconditions", name := "checkIndex", desc := "(IILjava/util/function/BiFunction;)I" } : Jvm.MethodName) ∈ lw_g := lw_m 509 (by decide +kernel) (by decide +kernel)
theorem k_510 : Jvm.Cond.static ({ cls := "jdk/internal/util/Preconditions", name := "checkIndex", desc := "(IILjava/util/function/BiFunction;)I" } : Jvm.MethodName) ∈ lw_g := lw_m 510 (by decide +kernel) (by decide +kernel)
theorem k_511 : Jvm.Cond.code ({ cls := "jdk/internal/util/Preconditions", name := "checkIndex", desc := "(IILjava/util/function/BiFunction;)I" } : Jvm.MethodName) prog_20_method_11_code (3 : Nat) (Option.some Jvm.ClassFile.FieldType.int) ∈ lw_g := lw_m 511 (by decide +kernel) (by decide +kernel)
theorem k_534 : Jvm.Cond.methodLink "ConicDesk$Reader" (66 : Nat) ({ cls := "ConicDesk$Reader", name := "fail", desc := "(II)Z" } : Jvm.MethodName) ∈ lw_g := lw_m 534 (by decide +kernel) (by decide +kernel)
theorem k_536 : Jvm.Cond.instanceMethod ({ cls := "ConicDesk$Reader", name := "fail", desc := "(II)Z" } : Jvm.MethodName) ∈ lw_g := lw_m 536 (by decide +kernel) (by decide +kernel)
theorem k_537 : Jvm.Cond.code ({ cls := "ConicDesk$Reader", name := "fail", desc := "(II)Z" } : Jvm.MethodName) prog_9_method_3_code (3 : Nat) (Option.some Jvm.ClassFile.FieldType.boolean) ∈ lw_g := lw_m 537 (by decide +kernel) (by decide +kernel)
theorem k_538 : Jvm.Cond.methodLink "ConicDesk$Reader" (70 : Nat) ({ cls := "ConicDesk$Reader", name := "canBe", desc := "(II)Z" } : Jvm.MethodName) ∈ lw_g := lw_m 538 (by decide +kernel) (by decide +kernel)
theorem k_540 : Jvm.Cond.instanceMethod ({ cls := "ConicDesk$Reader", name := "canBe", desc := "(II)Z" } : Jvm.MethodName) ∈ lw_g := lw_m 540 (by decide +kernel) (by decide +kernel)
theorem k_541 : Jvm.Cond.code ({ cls := "ConicDesk$Reader", name := "canBe", desc := "(II)Z" } : Jvm.MethodName) prog_9_method_6_code (3 : Nat) (Option.some Jvm.ClassFile.FieldType.boolean) ∈ lw_g := lw_m 541 (by decide +kernel) (by decide +kernel)
theorem k_542 : (("ConicDesk$Reader", 91, ({ cls := "ConicDesk", name := "isPrime", desc := "(I)Z" } : Jvm.MethodName), "ConicDesk") : String × Nat × MethodName × String) ∈ nestL := nest_m 542 (by decide +kernel)
theorem k_543 : Jvm.Cond.static ({ cls := "ConicDesk", name := "isPrime", desc := "(I)Z" } : Jvm.MethodName) ∈ lw_g := lw_m 543 (by decide +kernel) (by decide +kernel)
theorem k_544 : Jvm.Cond.code ({ cls := "ConicDesk", name := "isPrime", desc := "(I)Z" } : Jvm.MethodName) prog_1_method_38_code (2 : Nat) (Option.some Jvm.ClassFile.FieldType.boolean) ∈ lw_g := lw_m 544 (by decide +kernel) (by decide +kernel)
theorem k_545 : Jvm.Cond.fieldLink "ConicDesk" (339 : Nat) "ConicDesk" "PRIMES" "[I" ∈ lw_g := lw_m 545 (by decide +kernel) (by decide +kernel)
theorem k_547 : Jvm.Cond.methodLink "ConicDesk$Reader" (97 : Nat) ({ cls := "ConicDesk$Triple", name := "take", desc := "(II)Z" } : Jvm.MethodName) ∈ lw_g := lw_m 547 (by decide +kernel) (by decide +kernel)
theorem k_548 : Jvm.Cond.instanceMethod ({ cls := "ConicDesk$Triple", name := "take", desc := "(II)Z" } : Jvm.MethodName) ∈ lw_g := lw_m 548 (by decide +kernel) (by decide +kernel)
theorem k_549 : Jvm.Cond.selects "ConicDesk$Triple" ({ cls := "ConicDesk$Triple", name := "take", desc := "(II)Z" } : Jvm.MethodName) ({ cls := "ConicDesk$Triple", name := "take", desc := "(II)Z" } : Jvm.MethodName) ∈ lw_g := lw_m 549 (by decide +kernel) (by decide +kernel)
theorem k_550 : Jvm.Cond.code ({ cls := "ConicDesk$Triple", name := "take", desc := "(II)Z" } : Jvm.MethodName) prog_12_method_4_code (3 : Nat) (Option.some Jvm.ClassFile.FieldType.boolean) ∈ lw_g := lw_m 550 (by decide +kernel) (by decide +kernel)
theorem k_551 : Jvm.Cond.methodLink "ConicDesk$Triple" (21 : Nat) ({ cls := "ConicDesk$Field", name := "points", desc := "(I)I" } : Jvm.MethodName) ∈ lw_g := lw_m 551 (by decide +kernel) (by decide +kernel)
theorem k_552 : Jvm.Cond.static ({ cls := "ConicDesk$Field", name := "points", desc := "(I)I" } : Jvm.MethodName) ∈ lw_g := lw_m 552 (by decide +kernel) (by decide +kernel)
theorem k_553 : Jvm.Cond.code ({ cls := "ConicDesk$Field", name := "points", desc := "(I)I" } : Jvm.MethodName) prog_4_method_3_code (1 : Nat) (Option.some Jvm.ClassFile.FieldType.int) ∈ lw_g := lw_m 553 (by decide +kernel) (by decide +kernel)
theorem k_554 : Jvm.Cond.methodLink "ConicDesk$Triple" (27 : Nat) ({ cls := "ConicDesk$Triple", name := "fill", desc := "(III)V" } : Jvm.MethodName) ∈ lw_g := lw_m 554 (by decide +kernel) (by decide +kernel)
theorem k_555 : Jvm.Cond.instanceMethod ({ cls := "ConicDesk$Triple", name := "fill", desc := "(III)V" } : Jvm.MethodName) ∈ lw_g := lw_m 555 (by decide +kernel) (by decide +kernel)
theorem k_556 : Jvm.Cond.selects "ConicDesk$Triple" ({ cls := "ConicDesk$Triple", name := "fill", desc := "(III)V" } : Jvm.MethodName) ({ cls := "ConicDesk$Triple", name := "fill", desc := "(III)V" } : Jvm.MethodName) ∈ lw_g := lw_m 556 (by decide +kernel) (by decide +kernel)
theorem k_557 : Jvm.Cond.code ({ cls := "ConicDesk$Triple", name := "fill", desc := "(III)V" } : Jvm.MethodName) prog_12_method_2_code (4 : Nat) (Option.none : Option Jvm.ClassFile.FieldType) ∈ lw_g := lw_m 557 (by decide +kernel) (by decide +kernel)
theorem k_558 : (("ConicDesk$Reader", 100, ({ cls := "ConicDesk", name := "isConic", desc := "(I)Z" } : Jvm.MethodName), "ConicDesk") : String × Nat × MethodName × String) ∈ nestL := nest_m 558 (by decide +kernel)
theorem k_559 : Jvm.Cond.static ({ cls := "ConicDesk", name := "isConic", desc := "(I)Z" } : Jvm.MethodName) ∈ lw_g := lw_m 559 (by decide +kernel) (by decide +kernel)
theorem k_560 : Jvm.Cond.code ({ cls := "ConicDesk", name := "isConic", desc := "(I)Z" } : Jvm.MethodName) prog_1_method_39_code (1 : Nat) (Option.some Jvm.ClassFile.FieldType.boolean) ∈ lw_g := lw_m 560 (by decide +kernel) (by decide +kernel)
theorem k_561 : Jvm.Cond.methodLink "ConicDesk$Reader" (73 : Nat) ({ cls := "ConicDesk$Reader", name := "readSix", desc := "(LConicDesk$Tape;)Z" } : Jvm.MethodName) ∈ lw_g := lw_m 561 (by decide +kernel) (by decide +kernel)
theorem k_563 : Jvm.Cond.instanceMethod ({ cls := "ConicDesk$Reader", name := "readSix", desc := "(LConicDesk$Tape;)Z" } : Jvm.MethodName) ∈ lw_g := lw_m 563 (by decide +kernel) (by decide +kernel)
theorem k_564 : Jvm.Cond.code ({ cls := "ConicDesk$Reader", name := "readSix", desc := "(LConicDesk$Tape;)Z" } : Jvm.MethodName) prog_9_method_7_code (4 : Nat) (Option.some Jvm.ClassFile.FieldType.boolean) ∈ lw_g := lw_m 564 (by decide +kernel) (by decide +kernel)
theorem k_565 : Jvm.Cond.methodLink "ConicDesk$Reader" (103 : Nat) ({ cls := "ConicDesk$Form", name := "change", desc := "(II)V" } : Jvm.MethodName) ∈ lw_g := lw_m 565 (by decide +kernel) (by decide +kernel)
theorem k_566 : Jvm.Cond.instanceMethod ({ cls := "ConicDesk$Form", name := "change", desc := "(II)V" } : Jvm.MethodName) ∈ lw_g := lw_m 566 (by decide +kernel) (by decide +kernel)
theorem k_567 : Jvm.Cond.selects "ConicDesk$Form" ({ cls := "ConicDesk$Form", name := "change", desc := "(II)V" } : Jvm.MethodName) ({ cls := "ConicDesk$Form", name := "change", desc := "(II)V" } : Jvm.MethodName) ∈ lw_g := lw_m 567 (by decide +kernel) (by decide +kernel)
theorem k_568 : Jvm.Cond.code ({ cls := "ConicDesk$Form", name := "change", desc := "(II)V" } : Jvm.MethodName) prog_5_method_5_code (3 : Nat) (Option.none : Option Jvm.ClassFile.FieldType) ∈ lw_g := lw_m 568 (by decide +kernel) (by decide +kernel)
theorem k_569 : Jvm.Cond.methodLink "ConicDesk$Reader" (76 : Nat) ({ cls := "ConicDesk$Reader", name := "carryOut", desc := "(II)Z" } : Jvm.MethodName) ∈ lw_g := lw_m 569 (by decide +kernel) (by decide +kernel)
theorem k_571 : Jvm.Cond.instanceMethod ({ cls := "ConicDesk$Reader", name := "carryOut", desc := "(II)Z" } : Jvm.MethodName) ∈ lw_g := lw_m 571 (by decide +kernel) (by decide +kernel)
theorem k_572 : Jvm.Cond.code ({ cls := "ConicDesk$Reader", name := "carryOut", desc := "(II)Z" } : Jvm.MethodName) prog_9_method_8_code (4 : Nat) (Option.some Jvm.ClassFile.FieldType.boolean) ∈ lw_g := lw_m 572 (by decide +kernel) (by decide +kernel)
theorem k_573 : Jvm.Cond.methodLink "ConicDesk$Reader" (107 : Nat) ({ cls := "ConicDesk$Sheet", name := "changePrime", desc := "(I)V" } : Jvm.MethodName) ∈ lw_g := lw_m 573 (by decide +kernel) (by decide +kernel)
theorem k_574 : Jvm.Cond.instanceMethod ({ cls := "ConicDesk$Sheet", name := "changePrime", desc := "(I)V" } : Jvm.MethodName) ∈ lw_g := lw_m 574 (by decide +kernel) (by decide +kernel)
theorem k_575 : Jvm.Cond.selects "ConicDesk$Sheet" ({ cls := "ConicDesk$Sheet", name := "changePrime", desc := "(I)V" } : Jvm.MethodName) ({ cls := "ConicDesk$Sheet", name := "changePrime", desc := "(I)V" } : Jvm.MethodName) ∈ lw_g := lw_m 575 (by decide +kernel) (by decide +kernel)
theorem k_576 : Jvm.Cond.code ({ cls := "ConicDesk$Sheet", name := "changePrime", desc := "(I)V" } : Jvm.MethodName) prog_10_method_4_code (2 : Nat) (Option.none : Option Jvm.ClassFile.FieldType) ∈ lw_g := lw_m 576 (by decide +kernel) (by decide +kernel)
theorem k_577 : Jvm.Cond.methodLink "ConicDesk$Reader" (111 : Nat) ({ cls := "ConicDesk$Sheet", name := "isMarked", desc := "(I)Z" } : Jvm.MethodName) ∈ lw_g := lw_m 577 (by decide +kernel) (by decide +kernel)
theorem k_578 : Jvm.Cond.instanceMethod ({ cls := "ConicDesk$Sheet", name := "isMarked", desc := "(I)Z" } : Jvm.MethodName) ∈ lw_g := lw_m 578 (by decide +kernel) (by decide +kernel)
theorem k_579 : Jvm.Cond.selects "ConicDesk$Sheet" ({ cls := "ConicDesk$Sheet", name := "isMarked", desc := "(I)Z" } : Jvm.MethodName) ({ cls := "ConicDesk$Sheet", name := "isMarked", desc := "(I)Z" } : Jvm.MethodName) ∈ lw_g := lw_m 579 (by decide +kernel) (by decide +kernel)
theorem k_580 : Jvm.Cond.code ({ cls := "ConicDesk$Sheet", name := "isMarked", desc := "(I)Z" } : Jvm.MethodName) prog_10_method_6_code (3 : Nat) (Option.some Jvm.ClassFile.FieldType.boolean) ∈ lw_g := lw_m 580 (by decide +kernel) (by decide +kernel)
theorem k_581 : Jvm.Cond.methodLink "ConicDesk$Sheet" (34 : Nat) ({ cls := "ConicDesk$Sheet", name := "markAt", desc := "(I)I" } : Jvm.MethodName) ∈ lw_g := lw_m 581 (by decide +kernel) (by decide +kernel)
theorem k_582 : Jvm.Cond.instanceMethod ({ cls := "ConicDesk$Sheet", name := "markAt", desc := "(I)I" } : Jvm.MethodName) ∈ lw_g := lw_m 582 (by decide +kernel) (by decide +kernel)
theorem k_583 : Jvm.Cond.selects "ConicDesk$Sheet" ({ cls := "ConicDesk$Sheet", name := "markAt", desc := "(I)I" } : Jvm.MethodName) ({ cls := "ConicDesk$Sheet", name := "markAt", desc := "(I)I" } : Jvm.MethodName) ∈ lw_g := lw_m 583 (by decide +kernel) (by decide +kernel)
theorem k_584 : Jvm.Cond.code ({ cls := "ConicDesk$Sheet", name := "markAt", desc := "(I)I" } : Jvm.MethodName) prog_10_method_5_code (2 : Nat) (Option.some Jvm.ClassFile.FieldType.int) ∈ lw_g := lw_m 584 (by decide +kernel) (by decide +kernel)
theorem k_585 : Jvm.Cond.methodLink "ConicDesk$Reader" (117 : Nat) ({ cls := "ConicDesk$Sheet", name := "addMark", desc := "(I)V" } : Jvm.MethodName) ∈ lw_g := lw_m 585 (by decide +kernel) (by decide +kernel)
theorem k_586 : Jvm.Cond.instanceMethod ({ cls := "ConicDesk$Sheet", name := "addMark", desc := "(I)V" } : Jvm.MethodName) ∈ lw_g := lw_m 586 (by decide +kernel) (by decide +kernel)
theorem k_587 : Jvm.Cond.selects "ConicDesk$Sheet" ({ cls := "ConicDesk$Sheet", name := "addMark", desc := "(I)V" } : Jvm.MethodName) ({ cls := "ConicDesk$Sheet", name := "addMark", desc := "(I)V" } : Jvm.MethodName) ∈ lw_g := lw_m 587 (by decide +kernel) (by decide +kernel)
theorem k_588 : Jvm.Cond.code ({ cls := "ConicDesk$Sheet", name := "addMark", desc := "(I)V" } : Jvm.MethodName) prog_10_method_7_code (2 : Nat) (Option.none : Option Jvm.ClassFile.FieldType) ∈ lw_g := lw_m 588 (by decide +kernel) (by decide +kernel)
theorem k_589 : Jvm.Cond.methodLink "ConicDesk$Reader" (120 : Nat) ({ cls := "ConicDesk$Form", name := "multiply", desc := "()V" } : Jvm.MethodName) ∈ lw_g := lw_m 589 (by decide +kernel) (by decide +kernel)
theorem k_590 : Jvm.Cond.instanceMethod ({ cls := "ConicDesk$Form", name := "multiply", desc := "()V" } : Jvm.MethodName) ∈ lw_g := lw_m 590 (by decide +kernel) (by decide +kernel)
theorem k_591 : Jvm.Cond.selects "ConicDesk$Form" ({ cls := "ConicDesk$Form", name := "multiply", desc := "()V" } : Jvm.MethodName) ({ cls := "ConicDesk$Form", name := "multiply", desc := "()V" } : Jvm.MethodName) ∈ lw_g := lw_m 591 (by decide +kernel) (by decide +kernel)
theorem k_592 : Jvm.Cond.code ({ cls := "ConicDesk$Form", name := "multiply", desc := "()V" } : Jvm.MethodName) prog_5_method_12_code (1 : Nat) (Option.none : Option Jvm.ClassFile.FieldType) ∈ lw_g := lw_m 592 (by decide +kernel) (by decide +kernel)
theorem k_593 : Jvm.Cond.methodLink "ConicDesk$Form" (28 : Nat) ({ cls := "ConicDesk$Form", name := "fill", desc := "(IIIIII)V" } : Jvm.MethodName) ∈ lw_g := lw_m 593 (by decide +kernel) (by decide +kernel)
theorem k_594 : Jvm.Cond.instanceMethod ({ cls := "ConicDesk$Form", name := "fill", desc := "(IIIIII)V" } : Jvm.MethodName) ∈ lw_g := lw_m 594 (by decide +kernel) (by decide +kernel)
theorem k_595 : Jvm.Cond.selects "ConicDesk$Form" ({ cls := "ConicDesk$Form", name := "fill", desc := "(IIIIII)V" } : Jvm.MethodName) ({ cls := "ConicDesk$Form", name := "fill", desc := "(IIIIII)V" } : Jvm.MethodName) ∈ lw_g := lw_m 595 (by decide +kernel) (by decide +kernel)
theorem k_596 : Jvm.Cond.code ({ cls := "ConicDesk$Form", name := "fill", desc := "(IIIIII)V" } : Jvm.MethodName) prog_5_method_2_code (7 : Nat) (Option.none : Option Jvm.ClassFile.FieldType) ∈ lw_g := lw_m 596 (by decide +kernel) (by decide +kernel)
theorem k_597 : Jvm.Cond.methodLink "ConicDesk$Reader" (123 : Nat) ({ cls := "ConicDesk$Form", name := "isZero", desc := "()Z" } : Jvm.MethodName) ∈ lw_g := lw_m 597 (by decide +kernel) (by decide +kernel)
theorem k_598 : Jvm.Cond.instanceMethod ({ cls := "ConicDesk$Form", name := "isZero", desc := "()Z" } : Jvm.MethodName) ∈ lw_g := lw_m 598 (by decide +kernel) (by decide +kernel)
theorem k_599 : Jvm.Cond.selects "ConicDesk$Form" ({ cls := "ConicDesk$Form", name := "isZero", desc := "()Z" } : Jvm.MethodName) ({ cls := "ConicDesk$Form", name := "isZero", desc := "()Z" } : Jvm.MethodName) ∈ lw_g := lw_m 599 (by decide +kernel) (by decide +kernel)
theorem k_600 : Jvm.Cond.code ({ cls := "ConicDesk$Form", name := "isZero", desc := "()Z" } : Jvm.MethodName) prog_5_method_6_code (1 : Nat) (Option.some Jvm.ClassFile.FieldType.boolean) ∈ lw_g := lw_m 600 (by decide +kernel) (by decide +kernel)
theorem k_601 : Jvm.Cond.methodLink "ConicDesk$Reader" (127 : Nat) ({ cls := "ConicDesk$Form", name := "isWithinLimit", desc := "()Z" } : Jvm.MethodName) ∈ lw_g := lw_m 601 (by decide +kernel) (by decide +kernel)
theorem k_602 : Jvm.Cond.instanceMethod ({ cls := "ConicDesk$Form", name := "isWithinLimit", desc := "()Z" } : Jvm.MethodName) ∈ lw_g := lw_m 602 (by decide +kernel) (by decide +kernel)
theorem k_603 : Jvm.Cond.selects "ConicDesk$Form" ({ cls := "ConicDesk$Form", name := "isWithinLimit", desc := "()Z" } : Jvm.MethodName) ({ cls := "ConicDesk$Form", name := "isWithinLimit", desc := "()Z" } : Jvm.MethodName) ∈ lw_g := lw_m 603 (by decide +kernel) (by decide +kernel)
theorem k_604 : Jvm.Cond.code ({ cls := "ConicDesk$Form", name := "isWithinLimit", desc := "()Z" } : Jvm.MethodName) prog_5_method_8_code (1 : Nat) (Option.some Jvm.ClassFile.FieldType.boolean) ∈ lw_g := lw_m 604 (by decide +kernel) (by decide +kernel)
theorem k_605 : (("ConicDesk$Form", 32, ({ cls := "ConicDesk", name := "isBeyond", desc := "(I)Z" } : Jvm.MethodName), "ConicDesk") : String × Nat × MethodName × String) ∈ nestL := nest_m 605 (by decide +kernel)
theorem k_606 : Jvm.Cond.static ({ cls := "ConicDesk", name := "isBeyond", desc := "(I)Z" } : Jvm.MethodName) ∈ lw_g := lw_m 606 (by decide +kernel) (by decide +kernel)
theorem k_607 : Jvm.Cond.code ({ cls := "ConicDesk", name := "isBeyond", desc := "(I)Z" } : Jvm.MethodName) prog_1_method_41_code (1 : Nat) (Option.some Jvm.ClassFile.FieldType.boolean) ∈ lw_g := lw_m 607 (by decide +kernel) (by decide +kernel)
theorem k_608 : Jvm.Cond.methodLink "ConicDesk$Reader" (130 : Nat) ({ cls := "ConicDesk$Sheet", name := "write", desc := "(ILConicDesk$Form;)V" } : Jvm.MethodName) ∈ lw_g := lw_m 608 (by decide +kernel) (by decide +kernel)
theorem k_609 : Jvm.Cond.instanceMethod ({ cls := "ConicDesk$Sheet", name := "write", desc := "(ILConicDesk$Form;)V" } : Jvm.MethodName) ∈ lw_g := lw_m 609 (by decide +kernel) (by decide +kernel)
theorem k_610 : Jvm.Cond.selects "ConicDesk$Sheet" ({ cls := "ConicDesk$Sheet", name := "write", desc := "(ILConicDesk$Form;)V" } : Jvm.MethodName) ({ cls := "ConicDesk$Sheet", name := "write", desc := "(ILConicDesk$Form;)V" } : Jvm.MethodName) ∈ lw_g := lw_m 610 (by decide +kernel) (by decide +kernel)
theorem k_611 : Jvm.Cond.code ({ cls := "ConicDesk$Sheet", name := "write", desc := "(ILConicDesk$Form;)V" } : Jvm.MethodName) prog_10_method_10_code (4 : Nat) (Option.none : Option Jvm.ClassFile.FieldType) ∈ lw_g := lw_m 611 (by decide +kernel) (by decide +kernel)
theorem k_612 : (("ConicDesk$Sheet", 38, ({ cls := "ConicDesk", name := "isConic", desc := "(I)Z" } : Jvm.MethodName), "ConicDesk") : String × Nat × MethodName × String) ∈ nestL := nest_m 612 (by decide +kernel)
theorem k_613 : Jvm.Cond.methodLink "ConicDesk$Sheet" (48 : Nat) ({ cls := "ConicDesk$Form", name := "nth", desc := "(I)I" } : Jvm.MethodName) ∈ lw_g := lw_m 613 (by decide +kernel) (by decide +kernel)
theorem k_614 : Jvm.Cond.instanceMethod ({ cls := "ConicDesk$Form", name := "nth", desc := "(I)I" } : Jvm.MethodName) ∈ lw_g := lw_m 614 (by decide +kernel) (by decide +kernel)
theorem k_615 : Jvm.Cond.selects "ConicDesk$Form" ({ cls := "ConicDesk$Form", name := "nth", desc := "(I)I" } : Jvm.MethodName) ({ cls := "ConicDesk$Form", name := "nth", desc := "(I)I" } : Jvm.MethodName) ∈ lw_g := lw_m 615 (by decide +kernel) (by decide +kernel)
theorem k_616 : Jvm.Cond.code ({ cls := "ConicDesk$Form", name := "nth", desc := "(I)I" } : Jvm.MethodName) prog_5_method_4_code (2 : Nat) (Option.some Jvm.ClassFile.FieldType.int) ∈ lw_g := lw_m 616 (by decide +kernel) (by decide +kernel)
theorem k_617 : Jvm.Cond.methodLink "ConicDesk" (118 : Nat) ({ cls := "ConicDesk$Sheet", name := "copy", desc := "(LConicDesk$Sheet;)V" } : Jvm.MethodName) ∈ lw_g := lw_m 617 (by decide +kernel) (by decide +kernel)
theorem k_618 : Jvm.Cond.instanceMethod ({ cls := "ConicDesk$Sheet", name := "copy", desc := "(LConicDesk$Sheet;)V" } : Jvm.MethodName) ∈ lw_g := lw_m 618 (by decide +kernel) (by decide +kernel)
theorem k_619 : Jvm.Cond.selects "ConicDesk$Sheet" ({ cls := "ConicDesk$Sheet", name := "copy", desc := "(LConicDesk$Sheet;)V" } : Jvm.MethodName) ({ cls := "ConicDesk$Sheet", name := "copy", desc := "(LConicDesk$Sheet;)V" } : Jvm.MethodName) ∈ lw_g := lw_m 619 (by decide +kernel) (by decide +kernel)
theorem k_620 : Jvm.Cond.code ({ cls := "ConicDesk$Sheet", name := "copy", desc := "(LConicDesk$Sheet;)V" } : Jvm.MethodName) prog_10_method_3_code (2 : Nat) (Option.none : Option Jvm.ClassFile.FieldType) ∈ lw_g := lw_m 620 (by decide +kernel) (by decide +kernel)
theorem k_621 : Jvm.Cond.methodLink "ConicDesk$Sheet" (28 : Nat) ({ cls := "java/lang/System", name := "arraycopy", desc := "(Ljava/lang/Object;ILjava/lang/Object;II)V" } : Jvm.MethodName) ∈ lw_g := lw_m 621 (by decide +kernel) (by decide +kernel)
theorem k_622 : Jvm.Cond.static ({ cls := "java/lang/System", name := "arraycopy", desc := "(Ljava/lang/Object;ILjava/lang/Object;II)V" } : Jvm.MethodName) ∈ lw_g := lw_m 622 (by decide +kernel) (by decide +kernel)
theorem k_623 : Jvm.Cond.native ({ cls := "java/lang/System", name := "arraycopy", desc := "(Ljava/lang/Object;ILjava/lang/Object;II)V" } : Jvm.MethodName) ∈ lw_g := lw_m 623 (by decide +kernel) (by decide +kernel)
theorem k_624 : Jvm.Cond.methodLink "ConicDesk" (124 : Nat) ({ cls := "ConicDesk$Past", name := "forget", desc := "()V" } : Jvm.MethodName) ∈ lw_g := lw_m 624 (by decide +kernel) (by decide +kernel)
theorem k_625 : Jvm.Cond.instanceMethod ({ cls := "ConicDesk$Past", name := "forget", desc := "()V" } : Jvm.MethodName) ∈ lw_g := lw_m 625 (by decide +kernel) (by decide +kernel)
theorem k_626 : Jvm.Cond.selects "ConicDesk$Past" ({ cls := "ConicDesk$Past", name := "forget", desc := "()V" } : Jvm.MethodName) ({ cls := "ConicDesk$Past", name := "forget", desc := "()V" } : Jvm.MethodName) ∈ lw_g := lw_m 626 (by decide +kernel) (by decide +kernel)
theorem k_627 : Jvm.Cond.code ({ cls := "ConicDesk$Past", name := "forget", desc := "()V" } : Jvm.MethodName) prog_7_method_4_code (1 : Nat) (Option.none : Option Jvm.ClassFile.FieldType) ∈ lw_g := lw_m 627 (by decide +kernel) (by decide +kernel)
theorem k_628 : Jvm.Cond.methodLink "ConicDeskLaw" (28 : Nat) ({ cls := "ConicDesk", name := "fault", desc := "(I)I" } : Jvm.MethodName) ∈ lw_g := lw_m 628 (by decide +kernel) (by decide +kernel)
theorem k_629 : Jvm.Cond.instanceMethod ({ cls := "ConicDesk", name := "fault", desc := "(I)I" } : Jvm.MethodName) ∈ lw_g := lw_m 629 (by decide +kernel) (by decide +kernel)
theorem k_630 : Jvm.Cond.selects "ConicDesk" ({ cls := "ConicDesk", name := "fault", desc := "(I)I" } : Jvm.MethodName) ({ cls := "ConicDesk", name := "fault", desc := "(I)I" } : Jvm.MethodName) ∈ lw_g := lw_m 630 (by decide +kernel) (by decide +kernel)
theorem k_631 : Jvm.Cond.code ({ cls := "ConicDesk", name := "fault", desc := "(I)I" } : Jvm.MethodName) prog_1_method_5_code (2 : Nat) (Option.some Jvm.ClassFile.FieldType.int) ∈ lw_g := lw_m 631 (by decide +kernel) (by decide +kernel)
theorem k_632 : Jvm.Cond.methodLink "ConicDeskLaw" (32 : Nat) ({ cls := "ConicDesk", name := "prime", desc := "(I)I" } : Jvm.MethodName) ∈ lw_g := lw_m 632 (by decide +kernel) (by decide +kernel)
theorem k_633 : Jvm.Cond.instanceMethod ({ cls := "ConicDesk", name := "prime", desc := "(I)I" } : Jvm.MethodName) ∈ lw_g := lw_m 633 (by decide +kernel) (by decide +kernel)
theorem k_634 : Jvm.Cond.selects "ConicDesk" ({ cls := "ConicDesk", name := "prime", desc := "(I)I" } : Jvm.MethodName) ({ cls := "ConicDesk", name := "prime", desc := "(I)I" } : Jvm.MethodName) ∈ lw_g := lw_m 634 (by decide +kernel) (by decide +kernel)
theorem k_635 : Jvm.Cond.code ({ cls := "ConicDesk", name := "prime", desc := "(I)I" } : Jvm.MethodName) prog_1_method_6_code (2 : Nat) (Option.some Jvm.ClassFile.FieldType.int) ∈ lw_g := lw_m 635 (by decide +kernel) (by decide +kernel)
theorem k_636 : Jvm.Cond.methodLink "ConicDesk" (127 : Nat) ({ cls := "ConicDesk", name := "isPrime", desc := "(I)Z" } : Jvm.MethodName) ∈ lw_g := lw_m 636 (by decide +kernel) (by decide +kernel)
theorem k_637 : Jvm.Cond.methodLink "ConicDesk" (131 : Nat) ({ cls := "ConicDesk", name := "refuse", desc := "(II)I" } : Jvm.MethodName) ∈ lw_g := lw_m 637 (by decide +kernel) (by decide +kernel)
theorem k_639 : Jvm.Cond.instanceMethod ({ cls := "ConicDesk", name := "refuse", desc := "(II)I" } : Jvm.MethodName) ∈ lw_g := lw_m 639 (by decide +kernel) (by decide +kernel)
theorem k_640 : Jvm.Cond.code ({ cls := "ConicDesk", name := "refuse", desc := "(II)I" } : Jvm.MethodName) prog_1_method_35_code (3 : Nat) (Option.some Jvm.ClassFile.FieldType.int) ∈ lw_g := lw_m 640 (by decide +kernel) (by decide +kernel)
theorem k_641 : Jvm.Cond.methodLink "ConicDesk" (138 : Nat) ({ cls := "ConicDesk$Past", name := "keep", desc := "(LConicDesk$Sheet;)V" } : Jvm.MethodName) ∈ lw_g := lw_m 641 (by decide +kernel) (by decide +kernel)
theorem k_642 : Jvm.Cond.instanceMethod ({ cls := "ConicDesk$Past", name := "keep", desc := "(LConicDesk$Sheet;)V" } : Jvm.MethodName) ∈ lw_g := lw_m 642 (by decide +kernel) (by decide +kernel)
theorem k_643 : Jvm.Cond.selects "ConicDesk$Past" ({ cls := "ConicDesk$Past", name := "keep", desc := "(LConicDesk$Sheet;)V" } : Jvm.MethodName) ({ cls := "ConicDesk$Past", name := "keep", desc := "(LConicDesk$Sheet;)V" } : Jvm.MethodName) ∈ lw_g := lw_m 643 (by decide +kernel) (by decide +kernel)
theorem k_644 : Jvm.Cond.code ({ cls := "ConicDesk$Past", name := "keep", desc := "(LConicDesk$Sheet;)V" } : Jvm.MethodName) prog_7_method_2_code (2 : Nat) (Option.none : Option Jvm.ClassFile.FieldType) ∈ lw_g := lw_m 644 (by decide +kernel) (by decide +kernel)
theorem k_645 : Jvm.Cond.methodLink "ConicDesk$Past" (25 : Nat) ({ cls := "ConicDesk$Sheet", name := "copy", desc := "(LConicDesk$Sheet;)V" } : Jvm.MethodName) ∈ lw_g := lw_m 645 (by decide +kernel) (by decide +kernel)
theorem k_646 : Jvm.Cond.methodLink "ConicDesk$Past" (29 : Nat) ({ cls := "java/lang/Math", name := "min", desc := "(II)I" } : Jvm.MethodName) ∈ lw_g := lw_m 646 (by decide +kernel) (by decide +kernel)
theorem k_647 : Jvm.Cond.static ({ cls := "java/lang/Math", name := "min", desc := "(II)I" } : Jvm.MethodName) ∈ lw_g := lw_m 647 (by decide +kernel) (by decide +kernel)
theorem k_648 : Jvm.Cond.code ({ cls := "java/lang/Math", name := "min", desc := "(II)I" } : Jvm.MethodName) prog_15_method_69_code (2 : Nat) (Option.some Jvm.ClassFile.FieldType.int) ∈ lw_g := lw_m 648 (by decide +kernel) (by decide +kernel)
theorem k_649 : Jvm.Cond.methodLink "ConicDesk" (141 : Nat) ({ cls := "ConicDesk$Sheet", name := "changePrime", desc := "(I)V" } : Jvm.MethodName) ∈ lw_g := lw_m 649 (by decide +kernel) (by decide +kernel)
theorem k_650 : Jvm.Cond.methodLink "ConicDesk" (144 : Nat) ({ cls := "ConicDesk", name := "accept", desc := "()I" } : Jvm.MethodName) ∈ lw_g := lw_m 650 (by decide +kernel) (by decide +kernel)
theorem k_652 : Jvm.Cond.instanceMethod ({ cls := "ConicDesk", name := "accept", desc := "()I" } : Jvm.MethodName) ∈ lw_g := lw_m 652 (by decide +kernel) (by decide +kernel)
theorem k_653 : Jvm.Cond.code ({ cls := "ConicDesk", name := "accept", desc := "()I" } : Jvm.MethodName) prog_1_method_36_code (1 : Nat) (Option.some Jvm.ClassFile.FieldType.int) ∈ lw_g := lw_m 653 (by decide +kernel) (by decide +kernel)
theorem k_654 : Jvm.Cond.methodLink "ConicDeskLaw" (36 : Nat) ({ cls := "ConicDesk", name := "set", desc := "(III)I" } : Jvm.MethodName) ∈ lw_g := lw_m 654 (by decide +kernel) (by decide +kernel)
theorem k_655 : Jvm.Cond.instanceMethod ({ cls := "ConicDesk", name := "set", desc := "(III)I" } : Jvm.MethodName) ∈ lw_g := lw_m 655 (by decide +kernel) (by decide +kernel)
theorem k_656 : Jvm.Cond.selects "ConicDesk" ({ cls := "ConicDesk", name := "set", desc := "(III)I" } : Jvm.MethodName) ({ cls := "ConicDesk", name := "set", desc := "(III)I" } : Jvm.MethodName) ∈ lw_g := lw_m 656 (by decide +kernel) (by decide +kernel)
theorem k_657 : Jvm.Cond.code ({ cls := "ConicDesk", name := "set", desc := "(III)I" } : Jvm.MethodName) prog_1_method_7_code (4 : Nat) (Option.some Jvm.ClassFile.FieldType.int) ∈ lw_g := lw_m 657 (by decide +kernel) (by decide +kernel)
theorem k_658 : Jvm.Cond.methodLink "ConicDesk" (148 : Nat) ({ cls := "ConicDesk", name := "isConic", desc := "(I)Z" } : Jvm.MethodName) ∈ lw_g := lw_m 658 (by decide +kernel) (by decide +kernel)
theorem k_659 : Jvm.Cond.methodLink "ConicDesk" (151 : Nat) ({ cls := "ConicDesk", name := "isNumber", desc := "(I)Z" } : Jvm.MethodName) ∈ lw_g := lw_m 659 (by decide +kernel) (by decide +kernel)
theorem k_660 : Jvm.Cond.static ({ cls := "ConicDesk", name := "isNumber", desc := "(I)Z" } : Jvm.MethodName) ∈ lw_g := lw_m 660 (by decide +kernel) (by decide +kernel)
theorem k_661 : Jvm.Cond.code ({ cls := "ConicDesk", name := "isNumber", desc := "(I)Z" } : Jvm.MethodName) prog_1_method_40_code (1 : Nat) (Option.some Jvm.ClassFile.FieldType.boolean) ∈ lw_g := lw_m 661 (by decide +kernel) (by decide +kernel)
theorem k_662 : Jvm.Cond.methodLink "ConicDesk" (154 : Nat) ({ cls := "ConicDesk", name := "isBeyond", desc := "(I)Z" } : Jvm.MethodName) ∈ lw_g := lw_m 662 (by decide +kernel) (by decide +kernel)
theorem k_663 : Jvm.Cond.methodLink "ConicDesk" (157 : Nat) ({ cls := "ConicDesk$Sheet", name := "read", desc := "(ILConicDesk$Form;)V" } : Jvm.MethodName) ∈ lw_g := lw_m 663 (by decide +kernel) (by decide +kernel)
theorem k_664 : Jvm.Cond.instanceMethod ({ cls := "ConicDesk$Sheet", name := "read", desc := "(ILConicDesk$Form;)V" } : Jvm.MethodName) ∈ lw_g := lw_m 664 (by decide +kernel) (by decide +kernel)
theorem k_665 : Jvm.Cond.selects "ConicDesk$Sheet" ({ cls := "ConicDesk$Sheet", name := "read", desc := "(ILConicDesk$Form;)V" } : Jvm.MethodName) ({ cls := "ConicDesk$Sheet", name := "read", desc := "(ILConicDesk$Form;)V" } : Jvm.MethodName) ∈ lw_g := lw_m 665 (by decide +kernel) (by decide +kernel)
theorem k_666 : Jvm.Cond.code ({ cls := "ConicDesk$Sheet", name := "read", desc := "(ILConicDesk$Form;)V" } : Jvm.MethodName) prog_10_method_9_code (4 : Nat) (Option.none : Option Jvm.ClassFile.FieldType) ∈ lw_g := lw_m 666 (by decide +kernel) (by decide +kernel)
theorem k_667 : Jvm.Cond.methodLink "ConicDesk$Sheet" (42 : Nat) ({ cls := "ConicDesk$Form", name := "fill", desc := "(IIIIII)V" } : Jvm.MethodName) ∈ lw_g := lw_m 667 (by decide +kernel) (by decide +kernel)
theorem k_668 : Jvm.Cond.methodLink "ConicDesk" (160 : Nat) ({ cls := "ConicDesk$Form", name := "nth", desc := "(I)I" } : Jvm.MethodName) ∈ lw_g := lw_m 668 (by decide +kernel) (by decide +kernel)
theorem k_669 : Jvm.Cond.methodLink "ConicDesk" (164 : Nat) ({ cls := "ConicDesk$Form", name := "change", desc := "(II)V" } : Jvm.MethodName) ∈ lw_g := lw_m 669 (by decide +kernel) (by decide +kernel)
theorem k_670 : Jvm.Cond.methodLink "ConicDesk" (168 : Nat) ({ cls := "ConicDesk", name := "become", desc := "(ILConicDesk$Form;)I" } : Jvm.MethodName) ∈ lw_g := lw_m 670 (by decide +kernel) (by decide +kernel)
theorem k_672 : Jvm.Cond.instanceMethod ({ cls := "ConicDesk", name := "become", desc := "(ILConicDesk$Form;)I" } : Jvm.MethodName) ∈ lw_g := lw_m 672 (by decide +kernel) (by decide +kernel)
theorem k_673 : Jvm.Cond.code ({ cls := "ConicDesk", name := "become", desc := "(ILConicDesk$Form;)I" } : Jvm.MethodName) prog_1_method_37_code (3 : Nat) (Option.some Jvm.ClassFile.FieldType.int) ∈ lw_g := lw_m 673 (by decide +kernel) (by decide +kernel)
theorem k_674 : Jvm.Cond.methodLink "ConicDesk" (329 : Nat) ({ cls := "ConicDesk$Form", name := "isZero", desc := "()Z" } : Jvm.MethodName) ∈ lw_g := lw_m 674 (by decide +kernel) (by decide +kernel)
theorem k_675 : Jvm.Cond.methodLink "ConicDesk" (333 : Nat) ({ cls := "ConicDesk$Form", name := "isWithinLimit", desc := "()Z" } : Jvm.MethodName) ∈ lw_g := lw_m 675 (by decide +kernel) (by decide +kernel)
theorem k_676 : Jvm.Cond.methodLink "ConicDesk" (336 : Nat) ({ cls := "ConicDesk$Sheet", name := "write", desc := "(ILConicDesk$Form;)V" } : Jvm.MethodName) ∈ lw_g := lw_m 676 (by decide +kernel) (by decide +kernel)
theorem k_677 : Jvm.Cond.methodLink "ConicDeskLaw" (41 : Nat) ({ cls := "ConicDesk", name := "sum", desc := "(IIIII)I" } : Jvm.MethodName) ∈ lw_g := lw_m 677 (by decide +kernel) (by decide +kernel)
theorem k_678 : Jvm.Cond.instanceMethod ({ cls := "ConicDesk", name := "sum", desc := "(IIIII)I" } : Jvm.MethodName) ∈ lw_g := lw_m 678 (by decide +kernel) (by decide +kernel)
theorem k_679 : Jvm.Cond.selects "ConicDesk" ({ cls := "ConicDesk", name := "sum", desc := "(IIIII)I" } : Jvm.MethodName) ({ cls := "ConicDesk", name := "sum", desc := "(IIIII)I" } : Jvm.MethodName) ∈ lw_g := lw_m 679 (by decide +kernel) (by decide +kernel)
theorem k_680 : Jvm.Cond.code ({ cls := "ConicDesk", name := "sum", desc := "(IIIII)I" } : Jvm.MethodName) prog_1_method_8_code (6 : Nat) (Option.some Jvm.ClassFile.FieldType.int) ∈ lw_g := lw_m 680 (by decide +kernel) (by decide +kernel)
theorem k_681 : Jvm.Cond.methodLink "ConicDesk" (172 : Nat) ({ cls := "ConicDesk$Form", name := "blend", desc := "(IILConicDesk$Form;)V" } : Jvm.MethodName) ∈ lw_g := lw_m 681 (by decide +kernel) (by decide +kernel)
theorem k_682 : Jvm.Cond.instanceMethod ({ cls := "ConicDesk$Form", name := "blend", desc := "(IILConicDesk$Form;)V" } : Jvm.MethodName) ∈ lw_g := lw_m 682 (by decide +kernel) (by decide +kernel)
theorem k_683 : Jvm.Cond.selects "ConicDesk$Form" ({ cls := "ConicDesk$Form", name := "blend", desc := "(IILConicDesk$Form;)V" } : Jvm.MethodName) ({ cls := "ConicDesk$Form", name := "blend", desc := "(IILConicDesk$Form;)V" } : Jvm.MethodName) ∈ lw_g := lw_m 683 (by decide +kernel) (by decide +kernel)
theorem k_684 : Jvm.Cond.code ({ cls := "ConicDesk$Form", name := "blend", desc := "(IILConicDesk$Form;)V" } : Jvm.MethodName) prog_5_method_9_code (4 : Nat) (Option.none : Option Jvm.ClassFile.FieldType) ∈ lw_g := lw_m 684 (by decide +kernel) (by decide +kernel)
theorem k_685 : Jvm.Cond.methodLink "ConicDeskLaw" (45 : Nat) ({ cls := "ConicDesk", name := "turn", desc := "(II)I" } : Jvm.MethodName) ∈ lw_g := lw_m 685 (by decide +kernel) (by decide +kernel)
theorem k_686 : Jvm.Cond.instanceMethod ({ cls := "ConicDesk", name := "turn", desc := "(II)I" } : Jvm.MethodName) ∈ lw_g := lw_m 686 (by decide +kernel) (by decide +kernel)
theorem k_687 : Jvm.Cond.selects "ConicDesk" ({ cls := "ConicDesk", name := "turn", desc := "(II)I" } : Jvm.MethodName) ({ cls := "ConicDesk", name := "turn", desc := "(II)I" } : Jvm.MethodName) ∈ lw_g := lw_m 687 (by decide +kernel) (by decide +kernel)
theorem k_688 : Jvm.Cond.code ({ cls := "ConicDesk", name := "turn", desc := "(II)I" } : Jvm.MethodName) prog_1_method_9_code (4 : Nat) (Option.some Jvm.ClassFile.FieldType.int) ∈ lw_g := lw_m 688 (by decide +kernel) (by decide +kernel)
theorem k_689 : Jvm.Cond.methodLink "ConicDesk" (176 : Nat) ({ cls := "ConicDesk$Curve", name := "take", desc := "(LConicDesk$Sheet;I)V" } : Jvm.MethodName) ∈ lw_g := lw_m 689 (by decide +kernel) (by decide +kernel)
theorem k_690 : Jvm.Cond.instanceMethod ({ cls := "ConicDesk$Curve", name := "take", desc := "(LConicDesk$Sheet;I)V" } : Jvm.MethodName) ∈ lw_g := lw_m 690 (by decide +kernel) (by decide +kernel)
theorem k_691 : Jvm.Cond.selects "ConicDesk$Curve" ({ cls := "ConicDesk$Curve", name := "take", desc := "(LConicDesk$Sheet;I)V" } : Jvm.MethodName) ({ cls := "ConicDesk$Curve", name := "take", desc := "(LConicDesk$Sheet;I)V" } : Jvm.MethodName) ∈ lw_g := lw_m 691 (by decide +kernel) (by decide +kernel)
theorem k_692 : Jvm.Cond.code ({ cls := "ConicDesk$Curve", name := "take", desc := "(LConicDesk$Sheet;I)V" } : Jvm.MethodName) prog_2_method_2_code (3 : Nat) (Option.none : Option Jvm.ClassFile.FieldType) ∈ lw_g := lw_m 692 (by decide +kernel) (by decide +kernel)
theorem k_693 : Jvm.Cond.methodLink "ConicDesk$Curve" (27 : Nat) ({ cls := "ConicDesk$Sheet", name := "read", desc := "(ILConicDesk$Form;)V" } : Jvm.MethodName) ∈ lw_g := lw_m 693 (by decide +kernel) (by decide +kernel)
theorem k_694 : Jvm.Cond.methodLink "ConicDesk$Curve" (31 : Nat) ({ cls := "ConicDesk$Form", name := "reduce", desc := "(I)V" } : Jvm.MethodName) ∈ lw_g := lw_m 694 (by decide +kernel) (by decide +kernel)
theorem k_695 : Jvm.Cond.instanceMethod ({ cls := "ConicDesk$Form", name := "reduce", desc := "(I)V" } : Jvm.MethodName) ∈ lw_g := lw_m 695 (by decide +kernel) (by decide +kernel)
theorem k_696 : Jvm.Cond.selects "ConicDesk$Form" ({ cls := "ConicDesk$Form", name := "reduce", desc := "(I)V" } : Jvm.MethodName) ({ cls := "ConicDesk$Form", name := "reduce", desc := "(I)V" } : Jvm.MethodName) ∈ lw_g := lw_m 696 (by decide +kernel) (by decide +kernel)
theorem k_697 : Jvm.Cond.code ({ cls := "ConicDesk$Form", name := "reduce", desc := "(I)V" } : Jvm.MethodName) prog_5_method_10_code (2 : Nat) (Option.none : Option Jvm.ClassFile.FieldType) ∈ lw_g := lw_m 697 (by decide +kernel) (by decide +kernel)
theorem k_698 : Jvm.Cond.methodLink "ConicDesk$Form" (38 : Nat) ({ cls := "ConicDesk$Field", name := "rest", desc := "(II)I" } : Jvm.MethodName) ∈ lw_g := lw_m 698 (by decide +kernel) (by decide +kernel)
theorem k_699 : Jvm.Cond.static ({ cls := "ConicDesk$Field", name := "rest", desc := "(II)I" } : Jvm.MethodName) ∈ lw_g := lw_m 699 (by decide +kernel) (by decide +kernel)
theorem k_700 : Jvm.Cond.code ({ cls := "ConicDesk$Field", name := "rest", desc := "(II)I" } : Jvm.MethodName) prog_4_method_2_code (2 : Nat) (Option.some Jvm.ClassFile.FieldType.int) ∈ lw_g := lw_m 700 (by decide +kernel) (by decide +kernel)
theorem k_701 : Jvm.Cond.methodLink "ConicDesk$Field" (7 : Nat) ({ cls := "java/lang/Math", name := "floorMod", desc := "(II)I" } : Jvm.MethodName) ∈ lw_g := lw_m 701 (by decide +kernel) (by decide +kernel)
theorem k_702 : Jvm.Cond.static ({ cls := "java/lang/Math", name := "floorMod", desc := "(II)I" } : Jvm.MethodName) ∈ lw_g := lw_m 702 (by decide +kernel) (by decide +kernel)
theorem k_703 : Jvm.Cond.code ({ cls := "java/lang/Math", name := "floorMod", desc := "(II)I" } : Jvm.MethodName) prog_15_method_50_code (3 : Nat) (Option.some Jvm.ClassFile.FieldType.int) ∈ lw_g := lw_m 703 (by decide +kernel) (by decide +kernel)
theorem k_704 : Jvm.Cond.methodLink "ConicDesk" (180 : Nat) ({ cls := "ConicDesk$Curve", name := "kind", desc := "()I" } : Jvm.MethodName) ∈ lw_g := lw_m 704 (by decide +kernel) (by decide +kernel)
theorem k_705 : Jvm.Cond.instanceMethod ({ cls := "ConicDesk$Curve", name := "kind", desc := "()I" } : Jvm.MethodName) ∈ lw_g := lw_m 705 (by decide +kernel) (by decide +kernel)
theorem k_706 : Jvm.Cond.selects "ConicDesk$Curve" ({ cls := "ConicDesk$Curve", name := "kind", desc := "()I" } : Jvm.MethodName) ({ cls := "ConicDesk$Curve", name := "kind", desc := "()I" } : Jvm.MethodName) ∈ lw_g := lw_m 706 (by decide +kernel) (by decide +kernel)
theorem k_707 : Jvm.Cond.code ({ cls := "ConicDesk$Curve", name := "kind", desc := "()I" } : Jvm.MethodName) prog_2_method_8_code (2 : Nat) (Option.some Jvm.ClassFile.FieldType.int) ∈ lw_g := lw_m 707 (by decide +kernel) (by decide +kernel)
theorem k_708 : Jvm.Cond.methodLink "ConicDesk$Curve" (96 : Nat) ({ cls := "ConicDesk$Curve", name := "rank", desc := "()I" } : Jvm.MethodName) ∈ lw_g := lw_m 708 (by decide +kernel) (by decide +kernel)
theorem k_709 : Jvm.Cond.instanceMethod ({ cls := "ConicDesk$Curve", name := "rank", desc := "()I" } : Jvm.MethodName) ∈ lw_g := lw_m 709 (by decide +kernel) (by decide +kernel)
theorem k_710 : Jvm.Cond.selects "ConicDesk$Curve" ({ cls := "ConicDesk$Curve", name := "rank", desc := "()I" } : Jvm.MethodName) ({ cls := "ConicDesk$Curve", name := "rank", desc := "()I" } : Jvm.MethodName) ∈ lw_g := lw_m 710 (by decide +kernel) (by decide +kernel)
theorem k_711 : Jvm.Cond.code ({ cls := "ConicDesk$Curve", name := "rank", desc := "()I" } : Jvm.MethodName) prog_2_method_7_code (1 : Nat) (Option.some Jvm.ClassFile.FieldType.int) ∈ lw_g := lw_m 711 (by decide +kernel) (by decide +kernel)
theorem k_712 : Jvm.Cond.methodLink "ConicDesk$Curve" (85 : Nat) ({ cls := "ConicDesk$Form", name := "isZero", desc := "()Z" } : Jvm.MethodName) ∈ lw_g := lw_m 712 (by decide +kernel) (by decide +kernel)
theorem k_713 : Jvm.Cond.methodLink "ConicDesk$Curve" (89 : Nat) ({ cls := "ConicDesk$Form", name := "e", desc := "()I" } : Jvm.MethodName) ∈ lw_g := lw_m 713 (by decide +kernel) (by decide +kernel)
theorem k_714 : Jvm.Cond.instanceMethod ({ cls := "ConicDesk$Form", name := "e", desc := "()I" } : Jvm.MethodName) ∈ lw_g := lw_m 714 (by decide +kernel) (by decide +kernel)
theorem k_715 : Jvm.Cond.selects "ConicDesk$Form" ({ cls := "ConicDesk$Form", name := "e", desc := "()I" } : Jvm.MethodName) ({ cls := "ConicDesk$Form", name := "e", desc := "()I" } : Jvm.MethodName) ∈ lw_g := lw_m 715 (by decide +kernel) (by decide +kernel)
theorem k_716 : Jvm.Cond.code ({ cls := "ConicDesk$Form", name := "e", desc := "()I" } : Jvm.MethodName) prog_5_method_14_code (1 : Nat) (Option.some Jvm.ClassFile.FieldType.int) ∈ lw_g := lw_m 716 (by decide +kernel) (by decide +kernel)
theorem k_717 : Jvm.Cond.methodLink "ConicDesk$Curve" (76 : Nat) ({ cls := "ConicDesk$Field", name := "rest", desc := "(II)I" } : Jvm.MethodName) ∈ lw_g := lw_m 717 (by decide +kernel) (by decide +kernel)
theorem k_718 : Jvm.Cond.methodLink "ConicDesk$Curve" (93 : Nat) ({ cls := "ConicDesk$Curve", name := "sideMinor", desc := "()I" } : Jvm.MethodName) ∈ lw_g := lw_m 718 (by decide +kernel) (by decide +kernel)
theorem k_720 : Jvm.Cond.instanceMethod ({ cls := "ConicDesk$Curve", name := "sideMinor", desc := "()I" } : Jvm.MethodName) ∈ lw_g := lw_m 720 (by decide +kernel) (by decide +kernel)
theorem k_721 : Jvm.Cond.code ({ cls := "ConicDesk$Curve", name := "sideMinor", desc := "()I" } : Jvm.MethodName) prog_2_method_9_code (3 : Nat) (Option.some Jvm.ClassFile.FieldType.int) ∈ lw_g := lw_m 721 (by decide +kernel) (by decide +kernel)
theorem k_722 : Jvm.Cond.methodLink "ConicDesk$Curve" (103 : Nat) ({ cls := "ConicDesk$Form", name := "d", desc := "()I" } : Jvm.MethodName) ∈ lw_g := lw_m 722 (by decide +kernel) (by decide +kernel)
theorem k_723 : Jvm.Cond.instanceMethod ({ cls := "ConicDesk$Form", name := "d", desc := "()I" } : Jvm.MethodName) ∈ lw_g := lw_m 723 (by decide +kernel) (by decide +kernel)
theorem k_724 : Jvm.Cond.selects "ConicDesk$Form" ({ cls := "ConicDesk$Form", name := "d", desc := "()I" } : Jvm.MethodName) ({ cls := "ConicDesk$Form", name := "d", desc := "()I" } : Jvm.MethodName) ∈ lw_g := lw_m 724 (by decide +kernel) (by decide +kernel)
theorem k_725 : Jvm.Cond.code ({ cls := "ConicDesk$Form", name := "d", desc := "()I" } : Jvm.MethodName) prog_5_method_13_code (1 : Nat) (Option.some Jvm.ClassFile.FieldType.int) ∈ lw_g := lw_m 725 (by decide +kernel) (by decide +kernel)
theorem k_726 : Jvm.Cond.methodLink "ConicDesk$Curve" (99 : Nat) ({ cls := "ConicDesk$Field", name := "isSquare", desc := "(II)Z" } : Jvm.MethodName) ∈ lw_g := lw_m 726 (by decide +kernel) (by decide +kernel)
theorem k_727 : Jvm.Cond.static ({ cls := "ConicDesk$Field", name := "isSquare", desc := "(II)Z" } : Jvm.MethodName) ∈ lw_g := lw_m 727 (by decide +kernel) (by decide +kernel)
theorem k_728 : Jvm.Cond.code ({ cls := "ConicDesk$Field", name := "isSquare", desc := "(II)Z" } : Jvm.MethodName) prog_4_method_5_code (4 : Nat) (Option.some Jvm.ClassFile.FieldType.boolean) ∈ lw_g := lw_m 728 (by decide +kernel) (by decide +kernel)
theorem k_729 : Jvm.Cond.methodLink "ConicDesk$Field" (13 : Nat) ({ cls := "ConicDesk$Field", name := "rest", desc := "(II)I" } : Jvm.MethodName) ∈ lw_g := lw_m 729 (by decide +kernel) (by decide +kernel)
theorem k_730 : Jvm.Cond.methodLink "ConicDesk" (183 : Nat) ({ cls := "ConicDesk$Curve", name := "becomeDual", desc := "(LConicDesk$Curve;)V" } : Jvm.MethodName) ∈ lw_g := lw_m 730 (by decide +kernel) (by decide +kernel)
theorem k_731 : Jvm.Cond.instanceMethod ({ cls := "ConicDesk$Curve", name := "becomeDual", desc := "(LConicDesk$Curve;)V" } : Jvm.MethodName) ∈ lw_g := lw_m 731 (by decide +kernel) (by decide +kernel)
theorem k_732 : Jvm.Cond.selects "ConicDesk$Curve" ({ cls := "ConicDesk$Curve", name := "becomeDual", desc := "(LConicDesk$Curve;)V" } : Jvm.MethodName) ({ cls := "ConicDesk$Curve", name := "becomeDual", desc := "(LConicDesk$Curve;)V" } : Jvm.MethodName) ∈ lw_g := lw_m 732 (by decide +kernel) (by decide +kernel)
theorem k_733 : Jvm.Cond.code ({ cls := "ConicDesk$Curve", name := "becomeDual", desc := "(LConicDesk$Curve;)V" } : Jvm.MethodName) prog_2_method_3_code (3 : Nat) (Option.none : Option Jvm.ClassFile.FieldType) ∈ lw_g := lw_m 733 (by decide +kernel) (by decide +kernel)
theorem k_734 : Jvm.Cond.methodLink "ConicDesk$Curve" (53 : Nat) ({ cls := "ConicDesk$Form", name := "fill", desc := "(IIIIII)V" } : Jvm.MethodName) ∈ lw_g := lw_m 734 (by decide +kernel) (by decide +kernel)
theorem k_735 : Jvm.Cond.methodLink "ConicDeskLaw" (50 : Nat) ({ cls := "ConicDesk", name := "twist", desc := "(II)I" } : Jvm.MethodName) ∈ lw_g := lw_m 735 (by decide +kernel) (by decide +kernel)
theorem k_736 : Jvm.Cond.instanceMethod ({ cls := "ConicDesk", name := "twist", desc := "(II)I" } : Jvm.MethodName) ∈ lw_g := lw_m 736 (by decide +kernel) (by decide +kernel)
theorem k_737 : Jvm.Cond.selects "ConicDesk" ({ cls := "ConicDesk", name := "twist", desc := "(II)I" } : Jvm.MethodName) ({ cls := "ConicDesk", name := "twist", desc := "(II)I" } : Jvm.MethodName) ∈ lw_g := lw_m 737 (by decide +kernel) (by decide +kernel)
theorem k_738 : Jvm.Cond.code ({ cls := "ConicDesk", name := "twist", desc := "(II)I" } : Jvm.MethodName) prog_1_method_10_code (3 : Nat) (Option.some Jvm.ClassFile.FieldType.int) ∈ lw_g := lw_m 738 (by decide +kernel) (by decide +kernel)
theorem k_739 : Jvm.Cond.methodLink "ConicDesk" (188 : Nat) ({ cls := "ConicDesk$Form", name := "copy", desc := "(LConicDesk$Form;)V" } : Jvm.MethodName) ∈ lw_g := lw_m 739 (by decide +kernel) (by decide +kernel)
theorem k_740 : Jvm.Cond.instanceMethod ({ cls := "ConicDesk$Form", name := "copy", desc := "(LConicDesk$Form;)V" } : Jvm.MethodName) ∈ lw_g := lw_m 740 (by decide +kernel) (by decide +kernel)
theorem k_741 : Jvm.Cond.selects "ConicDesk$Form" ({ cls := "ConicDesk$Form", name := "copy", desc := "(LConicDesk$Form;)V" } : Jvm.MethodName) ({ cls := "ConicDesk$Form", name := "copy", desc := "(LConicDesk$Form;)V" } : Jvm.MethodName) ∈ lw_g := lw_m 741 (by decide +kernel) (by decide +kernel)
theorem k_742 : Jvm.Cond.code ({ cls := "ConicDesk$Form", name := "copy", desc := "(LConicDesk$Form;)V" } : Jvm.MethodName) prog_5_method_3_code (2 : Nat) (Option.none : Option Jvm.ClassFile.FieldType) ∈ lw_g := lw_m 742 (by decide +kernel) (by decide +kernel)
theorem k_743 : Jvm.Cond.methodLink "ConicDesk" (191 : Nat) ({ cls := "ConicDesk$Form", name := "twisted", desc := "(I)V" } : Jvm.MethodName) ∈ lw_g := lw_m 743 (by decide +kernel) (by decide +kernel)
theorem k_744 : Jvm.Cond.instanceMethod ({ cls := "ConicDesk$Form", name := "twisted", desc := "(I)V" } : Jvm.MethodName) ∈ lw_g := lw_m 744 (by decide +kernel) (by decide +kernel)
theorem k_745 : Jvm.Cond.selects "ConicDesk$Form" ({ cls := "ConicDesk$Form", name := "twisted", desc := "(I)V" } : Jvm.MethodName) ({ cls := "ConicDesk$Form", name := "twisted", desc := "(I)V" } : Jvm.MethodName) ∈ lw_g := lw_m 745 (by decide +kernel) (by decide +kernel)
theorem k_746 : Jvm.Cond.code ({ cls := "ConicDesk$Form", name := "twisted", desc := "(I)V" } : Jvm.MethodName) prog_5_method_11_code (2 : Nat) (Option.none : Option Jvm.ClassFile.FieldType) ∈ lw_g := lw_m 746 (by decide +kernel) (by decide +kernel)
theorem k_747 : Jvm.Cond.methodLink "ConicDesk" (194 : Nat) ({ cls := "ConicDesk$Form", name := "isLike", desc := "(LConicDesk$Form;)Z" } : Jvm.MethodName) ∈ lw_g := lw_m 747 (by decide +kernel) (by decide +kernel)
theorem k_748 : Jvm.Cond.instanceMethod ({ cls := "ConicDesk$Form", name := "isLike", desc := "(LConicDesk$Form;)Z" } : Jvm.MethodName) ∈ lw_g := lw_m 748 (by decide +kernel) (by decide +kernel)
theorem k_749 : Jvm.Cond.selects "ConicDesk$Form" ({ cls := "ConicDesk$Form", name := "isLike", desc := "(LConicDesk$Form;)Z" } : Jvm.MethodName) ({ cls := "ConicDesk$Form", name := "isLike", desc := "(LConicDesk$Form;)Z" } : Jvm.MethodName) ∈ lw_g := lw_m 749 (by decide +kernel) (by decide +kernel)
theorem k_750 : Jvm.Cond.code ({ cls := "ConicDesk$Form", name := "isLike", desc := "(LConicDesk$Form;)Z" } : Jvm.MethodName) prog_5_method_7_code (2 : Nat) (Option.some Jvm.ClassFile.FieldType.boolean) ∈ lw_g := lw_m 750 (by decide +kernel) (by decide +kernel)
theorem k_751 : Jvm.Cond.methodLink "ConicDeskLaw" (54 : Nat) ({ cls := "ConicDesk", name := "through", desc := "(I)I" } : Jvm.MethodName) ∈ lw_g := lw_m 751 (by decide +kernel) (by decide +kernel)
theorem k_752 : Jvm.Cond.instanceMethod ({ cls := "ConicDesk", name := "through", desc := "(I)I" } : Jvm.MethodName) ∈ lw_g := lw_m 752 (by decide +kernel) (by decide +kernel)
theorem k_753 : Jvm.Cond.selects "ConicDesk" ({ cls := "ConicDesk", name := "through", desc := "(I)I" } : Jvm.MethodName) ({ cls := "ConicDesk", name := "through", desc := "(I)I" } : Jvm.MethodName) ∈ lw_g := lw_m 753 (by decide +kernel) (by decide +kernel)
theorem k_754 : Jvm.Cond.code ({ cls := "ConicDesk", name := "through", desc := "(I)I" } : Jvm.MethodName) prog_1_method_11_code (2 : Nat) (Option.some Jvm.ClassFile.FieldType.int) ∈ lw_g := lw_m 754 (by decide +kernel) (by decide +kernel)
theorem k_755 : Jvm.Cond.methodLink "ConicDesk" (198 : Nat) ({ cls := "ConicDesk$Family", name := "gather", desc := "(LConicDesk$Sheet;)V" } : Jvm.MethodName) ∈ lw_g := lw_m 755 (by decide +kernel) (by decide +kernel)
theorem k_756 : Jvm.Cond.instanceMethod ({ cls := "ConicDesk$Family", name := "gather", desc := "(LConicDesk$Sheet;)V" } : Jvm.MethodName) ∈ lw_g := lw_m 756 (by decide +kernel) (by decide +kernel)
theorem k_757 : Jvm.Cond.selects "ConicDesk$Family" ({ cls := "ConicDesk$Family", name := "gather", desc := "(LConicDesk$Sheet;)V" } : Jvm.MethodName) ({ cls := "ConicDesk$Family", name := "gather", desc := "(LConicDesk$Sheet;)V" } : Jvm.MethodName) ∈ lw_g := lw_m 757 (by decide +kernel) (by decide +kernel)
theorem k_758 : Jvm.Cond.code ({ cls := "ConicDesk$Family", name := "gather", desc := "(LConicDesk$Sheet;)V" } : Jvm.MethodName) prog_3_method_2_code (3 : Nat) (Option.none : Option Jvm.ClassFile.FieldType) ∈ lw_g := lw_m 758 (by decide +kernel) (by decide +kernel)
theorem k_759 : Jvm.Cond.methodLink "ConicDesk$Family" (41 : Nat) ({ cls := "ConicDesk$Form", name := "fill", desc := "(IIIIII)V" } : Jvm.MethodName) ∈ lw_g := lw_m 759 (by decide +kernel) (by decide +kernel)
theorem k_760 : Jvm.Cond.methodLink "ConicDesk$Family" (47 : Nat) ({ cls := "ConicDesk$Form", name := "change", desc := "(II)V" } : Jvm.MethodName) ∈ lw_g := lw_m 760 (by decide +kernel) (by decide +kernel)
theorem k_761 : Jvm.Cond.methodLink "ConicDesk$Family" (54 : Nat) ({ cls := "ConicDesk$Sheet", name := "markAt", desc := "(I)I" } : Jvm.MethodName) ∈ lw_g := lw_m 761 (by decide +kernel) (by decide +kernel)
theorem k_762 : Jvm.Cond.methodLink "ConicDesk$Family" (58 : Nat) ({ cls := "ConicDesk$Triple", name := "take", desc := "(II)Z" } : Jvm.MethodName) ∈ lw_g := lw_m 762 (by decide +kernel) (by decide +kernel)
theorem k_763 : Jvm.Cond.methodLink "ConicDesk$Family" (62 : Nat) ({ cls := "ConicDesk$Family", name := "pass", desc := "()V" } : Jvm.MethodName) ∈ lw_g := lw_m 763 (by decide +kernel) (by decide +kernel)
theorem k_765 : Jvm.Cond.instanceMethod ({ cls := "ConicDesk$Family", name := "pass", desc := "()V" } : Jvm.MethodName) ∈ lw_g := lw_m 765 (by decide +kernel) (by decide +kernel)
theorem k_766 : Jvm.Cond.code ({ cls := "ConicDesk$Family", name := "pass", desc := "()V" } : Jvm.MethodName) prog_3_method_6_code (5 : Nat) (Option.none : Option Jvm.ClassFile.FieldType) ∈ lw_g := lw_m 766 (by decide +kernel) (by decide +kernel)
theorem k_767 : Jvm.Cond.methodLink "ConicDesk$Family" (65 : Nat) ({ cls := "ConicDesk$Family", name := "firstOff", desc := "(LConicDesk$Triple;)I" } : Jvm.MethodName) ∈ lw_g := lw_m 767 (by decide +kernel) (by decide +kernel)
theorem k_769 : Jvm.Cond.instanceMethod ({ cls := "ConicDesk$Family", name := "firstOff", desc := "(LConicDesk$Triple;)I" } : Jvm.MethodName) ∈ lw_g := lw_m 769 (by decide +kernel) (by decide +kernel)
theorem k_770 : Jvm.Cond.code ({ cls := "ConicDesk$Family", name := "firstOff", desc := "(LConicDesk$Triple;)I" } : Jvm.MethodName) prog_3_method_5_code (3 : Nat) (Option.some Jvm.ClassFile.FieldType.int) ∈ lw_g := lw_m 770 (by decide +kernel) (by decide +kernel)
theorem k_771 : Jvm.Cond.methodLink "ConicDesk$Family" (90 : Nat) ({ cls := "ConicDesk$Curve", name := "valueAt", desc := "(LConicDesk$Triple;)I" } : Jvm.MethodName) ∈ lw_g := lw_m 771 (by decide +kernel) (by decide +kernel)
theorem k_772 : Jvm.Cond.instanceMethod ({ cls := "ConicDesk$Curve", name := "valueAt", desc := "(LConicDesk$Triple;)I" } : Jvm.MethodName) ∈ lw_g := lw_m 772 (by decide +kernel) (by decide +kernel)
theorem k_773 : Jvm.Cond.selects "ConicDesk$Curve" ({ cls := "ConicDesk$Curve", name := "valueAt", desc := "(LConicDesk$Triple;)I" } : Jvm.MethodName) ({ cls := "ConicDesk$Curve", name := "valueAt", desc := "(LConicDesk$Triple;)I" } : Jvm.MethodName) ∈ lw_g := lw_m 773 (by decide +kernel) (by decide +kernel)
theorem k_774 : Jvm.Cond.code ({ cls := "ConicDesk$Curve", name := "valueAt", desc := "(LConicDesk$Triple;)I" } : Jvm.MethodName) prog_2_method_5_code (5 : Nat) (Option.some Jvm.ClassFile.FieldType.int) ∈ lw_g := lw_m 774 (by decide +kernel) (by decide +kernel)
theorem k_775 : Jvm.Cond.methodLink "ConicDesk$Family" (82 : Nat) ({ cls := "ConicDesk$Form", name := "blend", desc := "(IILConicDesk$Form;)V" } : Jvm.MethodName) ∈ lw_g := lw_m 775 (by decide +kernel) (by decide +kernel)
theorem k_776 : Jvm.Cond.methodLink "ConicDesk$Family" (86 : Nat) ({ cls := "ConicDesk$Form", name := "reduce", desc := "(I)V" } : Jvm.MethodName) ∈ lw_g := lw_m 776 (by decide +kernel) (by decide +kernel)
theorem k_777 : Jvm.Cond.methodLink "ConicDesk" (204 : Nat) ({ cls := "ConicDesk$Family", name := "readOne", desc := "(LConicDesk$Form;)V" } : Jvm.MethodName) ∈ lw_g := lw_m 777 (by decide +kernel) (by decide +kernel)
theorem k_778 : Jvm.Cond.instanceMethod ({ cls := "ConicDesk$Family", name := "readOne", desc := "(LConicDesk$Form;)V" } : Jvm.MethodName) ∈ lw_g := lw_m 778 (by decide +kernel) (by decide +kernel)
theorem k_779 : Jvm.Cond.selects "ConicDesk$Family" ({ cls := "ConicDesk$Family", name := "readOne", desc := "(LConicDesk$Form;)V" } : Jvm.MethodName) ({ cls := "ConicDesk$Family", name := "readOne", desc := "(LConicDesk$Form;)V" } : Jvm.MethodName) ∈ lw_g := lw_m 779 (by decide +kernel) (by decide +kernel)
theorem k_780 : Jvm.Cond.code ({ cls := "ConicDesk$Family", name := "readOne", desc := "(LConicDesk$Form;)V" } : Jvm.MethodName) prog_3_method_4_code (6 : Nat) (Option.none : Option Jvm.ClassFile.FieldType) ∈ lw_g := lw_m 780 (by decide +kernel) (by decide +kernel)
theorem k_781 : Jvm.Cond.methodLink "ConicDesk$Family" (69 : Nat) ({ cls := "ConicDesk$Form", name := "nth", desc := "(I)I" } : Jvm.MethodName) ∈ lw_g := lw_m 781 (by decide +kernel) (by decide +kernel)
theorem k_782 : Jvm.Cond.methodLink "ConicDesk$Family" (72 : Nat) ({ cls := "ConicDesk$Form", name := "copy", desc := "(LConicDesk$Form;)V" } : Jvm.MethodName) ∈ lw_g := lw_m 782 (by decide +kernel) (by decide +kernel)
theorem k_783 : Jvm.Cond.methodLink "ConicDesk$Family" (76 : Nat) ({ cls := "ConicDesk$Field", name := "inverse", desc := "(II)I" } : Jvm.MethodName) ∈ lw_g := lw_m 783 (by decide +kernel) (by decide +kernel)
theorem k_784 : Jvm.Cond.static ({ cls := "ConicDesk$Field", name := "inverse", desc := "(II)I" } : Jvm.MethodName) ∈ lw_g := lw_m 784 (by decide +kernel) (by decide +kernel)
theorem k_785 : Jvm.Cond.code ({ cls := "ConicDesk$Field", name := "inverse", desc := "(II)I" } : Jvm.MethodName) prog_4_method_4_code (3 : Nat) (Option.some Jvm.ClassFile.FieldType.int) ∈ lw_g := lw_m 785 (by decide +kernel) (by decide +kernel)
theorem k_786 : Jvm.Cond.methodLink "ConicDeskLaw" (58 : Nat) ({ cls := "ConicDesk", name := "mark", desc := "(IZ)I" } : Jvm.MethodName) ∈ lw_g := lw_m 786 (by decide +kernel) (by decide +kernel)
theorem k_787 : Jvm.Cond.instanceMethod ({ cls := "ConicDesk", name := "mark", desc := "(IZ)I" } : Jvm.MethodName) ∈ lw_g := lw_m 787 (by decide +kernel) (by decide +kernel)
theorem k_788 : Jvm.Cond.selects "ConicDesk" ({ cls := "ConicDesk", name := "mark", desc := "(IZ)I" } : Jvm.MethodName) ({ cls := "ConicDesk", name := "mark", desc := "(IZ)I" } : Jvm.MethodName) ∈ lw_g := lw_m 788 (by decide +kernel) (by decide +kernel)
theorem k_789 : Jvm.Cond.code ({ cls := "ConicDesk", name := "mark", desc := "(IZ)I" } : Jvm.MethodName) prog_1_method_12_code (3 : Nat) (Option.some Jvm.ClassFile.FieldType.int) ∈ lw_g := lw_m 789 (by decide +kernel) (by decide +kernel)
theorem k_790 : Jvm.Cond.methodLink "ConicDesk" (207 : Nat) ({ cls := "ConicDesk$Triple", name := "take", desc := "(II)Z" } : Jvm.MethodName) ∈ lw_g := lw_m 790 (by decide +kernel) (by decide +kernel)
theorem k_791 : Jvm.Cond.methodLink "ConicDesk" (210 : Nat) ({ cls := "ConicDesk$Sheet", name := "isMarked", desc := "(I)Z" } : Jvm.MethodName) ∈ lw_g := lw_m 791 (by decide +kernel) (by decide +kernel)
theorem k_792 : Jvm.Cond.methodLink "ConicDesk" (216 : Nat) ({ cls := "ConicDesk$Sheet", name := "dropMark", desc := "(I)V" } : Jvm.MethodName) ∈ lw_g := lw_m 792 (by decide +kernel) (by decide +kernel)
theorem k_793 : Jvm.Cond.instanceMethod ({ cls := "ConicDesk$Sheet", name := "dropMark", desc := "(I)V" } : Jvm.MethodName) ∈ lw_g := lw_m 793 (by decide +kernel) (by decide +kernel)
theorem k_794 : Jvm.Cond.selects "ConicDesk$Sheet" ({ cls := "ConicDesk$Sheet", name := "dropMark", desc := "(I)V" } : Jvm.MethodName) ({ cls := "ConicDesk$Sheet", name := "dropMark", desc := "(I)V" } : Jvm.MethodName) ∈ lw_g := lw_m 794 (by decide +kernel) (by decide +kernel)
theorem k_795 : Jvm.Cond.code ({ cls := "ConicDesk$Sheet", name := "dropMark", desc := "(I)V" } : Jvm.MethodName) prog_10_method_8_code (4 : Nat) (Option.none : Option Jvm.ClassFile.FieldType) ∈ lw_g := lw_m 795 (by decide +kernel) (by decide +kernel)
theorem k_796 : Jvm.Cond.methodLink "ConicDesk" (219 : Nat) ({ cls := "ConicDesk$Sheet", name := "addMark", desc := "(I)V" } : Jvm.MethodName) ∈ lw_g := lw_m 796 (by decide +kernel) (by decide +kernel)
theorem k_797 : Jvm.Cond.methodLink "ConicDeskLaw" (63 : Nat) ({ cls := "ConicDesk", name := "why", desc := "(I)I" } : Jvm.MethodName) ∈ lw_g := lw_m 797 (by decide +kernel) (by decide +kernel)
theorem k_798 : Jvm.Cond.instanceMethod ({ cls := "ConicDesk", name := "why", desc := "(I)I" } : Jvm.MethodName) ∈ lw_g := lw_m 798 (by decide +kernel) (by decide +kernel)
theorem k_799 : Jvm.Cond.selects "ConicDesk" ({ cls := "ConicDesk", name := "why", desc := "(I)I" } : Jvm.MethodName) ({ cls := "ConicDesk", name := "why", desc := "(I)I" } : Jvm.MethodName) ∈ lw_g := lw_m 799 (by decide +kernel) (by decide +kernel)
theorem k_800 : Jvm.Cond.code ({ cls := "ConicDesk", name := "why", desc := "(I)I" } : Jvm.MethodName) prog_1_method_13_code (2 : Nat) (Option.some Jvm.ClassFile.FieldType.int) ∈ lw_g := lw_m 800 (by decide +kernel) (by decide +kernel)
theorem k_801 : Jvm.Cond.methodLink "ConicDeskLaw" (67 : Nat) ({ cls := "ConicDesk", name := "undo", desc := "()I" } : Jvm.MethodName) ∈ lw_g := lw_m 801 (by decide +kernel) (by decide +kernel)
theorem k_802 : Jvm.Cond.instanceMethod ({ cls := "ConicDesk", name := "undo", desc := "()I" } : Jvm.MethodName) ∈ lw_g := lw_m 802 (by decide +kernel) (by decide +kernel)
theorem k_803 : Jvm.Cond.selects "ConicDesk" ({ cls := "ConicDesk", name := "undo", desc := "()I" } : Jvm.MethodName) ({ cls := "ConicDesk", name := "undo", desc := "()I" } : Jvm.MethodName) ∈ lw_g := lw_m 803 (by decide +kernel) (by decide +kernel)
theorem k_804 : Jvm.Cond.code ({ cls := "ConicDesk", name := "undo", desc := "()I" } : Jvm.MethodName) prog_1_method_14_code (1 : Nat) (Option.some Jvm.ClassFile.FieldType.int) ∈ lw_g := lw_m 804 (by decide +kernel) (by decide +kernel)
theorem k_805 : Jvm.Cond.methodLink "ConicDesk" (228 : Nat) ({ cls := "ConicDesk$Past", name := "giveBack", desc := "(LConicDesk$Sheet;)Z" } : Jvm.MethodName) ∈ lw_g := lw_m 805 (by decide +kernel) (by decide +kernel)
theorem k_806 : Jvm.Cond.instanceMethod ({ cls := "ConicDesk$Past", name := "giveBack", desc := "(LConicDesk$Sheet;)Z" } : Jvm.MethodName) ∈ lw_g := lw_m 806 (by decide +kernel) (by decide +kernel)
theorem k_807 : Jvm.Cond.selects "ConicDesk$Past" ({ cls := "ConicDesk$Past", name := "giveBack", desc := "(LConicDesk$Sheet;)Z" } : Jvm.MethodName) ({ cls := "ConicDesk$Past", name := "giveBack", desc := "(LConicDesk$Sheet;)Z" } : Jvm.MethodName) ∈ lw_g := lw_m 807 (by decide +kernel) (by decide +kernel)
theorem k_808 : Jvm.Cond.code ({ cls := "ConicDesk$Past", name := "giveBack", desc := "(LConicDesk$Sheet;)Z" } : Jvm.MethodName) prog_7_method_3_code (3 : Nat) (Option.some Jvm.ClassFile.FieldType.boolean) ∈ lw_g := lw_m 808 (by decide +kernel) (by decide +kernel)
theorem k_809 : Jvm.Cond.methodLink "ConicDeskLaw" (71 : Nat) ({ cls := "ConicDesk", name := "count", desc := "(I)I" } : Jvm.MethodName) ∈ lw_g := lw_m 809 (by decide +kernel) (by decide +kernel)
theorem k_810 : Jvm.Cond.instanceMethod ({ cls := "ConicDesk", name := "count", desc := "(I)I" } : Jvm.MethodName) ∈ lw_g := lw_m 810 (by decide +kernel) (by decide +kernel)
theorem k_811 : Jvm.Cond.selects "ConicDesk" ({ cls := "ConicDesk", name := "count", desc := "(I)I" } : Jvm.MethodName) ({ cls := "ConicDesk", name := "count", desc := "(I)I" } : Jvm.MethodName) ∈ lw_g := lw_m 811 (by decide +kernel) (by decide +kernel)
theorem k_812 : Jvm.Cond.code ({ cls := "ConicDesk", name := "count", desc := "(I)I" } : Jvm.MethodName) prog_1_method_15_code (2 : Nat) (Option.some Jvm.ClassFile.FieldType.int) ∈ lw_g := lw_m 812 (by decide +kernel) (by decide +kernel)
theorem k_813 : Jvm.Cond.methodLink "ConicDesk" (235 : Nat) ({ cls := "ConicDesk$Field", name := "points", desc := "(I)I" } : Jvm.MethodName) ∈ lw_g := lw_m 813 (by decide +kernel) (by decide +kernel)
theorem k_814 : Jvm.Cond.methodLink "ConicDesk" (240 : Nat) ({ cls := "ConicDesk", name := "properConics", desc := "()I" } : Jvm.MethodName) ∈ lw_g := lw_m 814 (by decide +kernel) (by decide +kernel)
theorem k_816 : Jvm.Cond.instanceMethod ({ cls := "ConicDesk", name := "properConics", desc := "()I" } : Jvm.MethodName) ∈ lw_g := lw_m 816 (by decide +kernel) (by decide +kernel)
theorem k_817 : Jvm.Cond.code ({ cls := "ConicDesk", name := "properConics", desc := "()I" } : Jvm.MethodName) prog_1_method_46_code (3 : Nat) (Option.some Jvm.ClassFile.FieldType.int) ∈ lw_g := lw_m 817 (by decide +kernel) (by decide +kernel)
theorem k_818 : Jvm.Cond.methodLink "ConicDesk" (243 : Nat) ({ cls := "ConicDesk", name := "marksInLine", desc := "()I" } : Jvm.MethodName) ∈ lw_g := lw_m 818 (by decide +kernel) (by decide +kernel)
theorem k_820 : Jvm.Cond.instanceMethod ({ cls := "ConicDesk", name := "marksInLine", desc := "()I" } : Jvm.MethodName) ∈ lw_g := lw_m 820 (by decide +kernel) (by decide +kernel)
theorem k_821 : Jvm.Cond.code ({ cls := "ConicDesk", name := "marksInLine", desc := "()I" } : Jvm.MethodName) prog_1_method_47_code (3 : Nat) (Option.some Jvm.ClassFile.FieldType.int) ∈ lw_g := lw_m 821 (by decide +kernel) (by decide +kernel)
theorem k_822 : Jvm.Cond.methodLink "ConicDesk" (361 : Nat) ({ cls := "ConicDesk", name := "isInLine", desc := "(I)Z" } : Jvm.MethodName) ∈ lw_g := lw_m 822 (by decide +kernel) (by decide +kernel)
theorem k_824 : Jvm.Cond.instanceMethod ({ cls := "ConicDesk", name := "isInLine", desc := "(I)Z" } : Jvm.MethodName) ∈ lw_g := lw_m 824 (by decide +kernel) (by decide +kernel)
theorem k_825 : Jvm.Cond.code ({ cls := "ConicDesk", name := "isInLine", desc := "(I)Z" } : Jvm.MethodName) prog_1_method_48_code (5 : Nat) (Option.some Jvm.ClassFile.FieldType.boolean) ∈ lw_g := lw_m 825 (by decide +kernel) (by decide +kernel)
theorem k_826 : Jvm.Cond.methodLink "ConicDesk" (265 : Nat) ({ cls := "ConicDesk$Sheet", name := "markAt", desc := "(I)I" } : Jvm.MethodName) ∈ lw_g := lw_m 826 (by decide +kernel) (by decide +kernel)
theorem k_827 : Jvm.Cond.methodLink "ConicDesk" (261 : Nat) ({ cls := "ConicDesk$Triple", name := "cross", desc := "(LConicDesk$Triple;LConicDesk$Triple;)V" } : Jvm.MethodName) ∈ lw_g := lw_m 827 (by decide +kernel) (by decide +kernel)
theorem k_828 : Jvm.Cond.instanceMethod ({ cls := "ConicDesk$Triple", name := "cross", desc := "(LConicDesk$Triple;LConicDesk$Triple;)V" } : Jvm.MethodName) ∈ lw_g := lw_m 828 (by decide +kernel) (by decide +kernel)
theorem k_829 : Jvm.Cond.selects "ConicDesk$Triple" ({ cls := "ConicDesk$Triple", name := "cross", desc := "(LConicDesk$Triple;LConicDesk$Triple;)V" } : Jvm.MethodName) ({ cls := "ConicDesk$Triple", name := "cross", desc := "(LConicDesk$Triple;LConicDesk$Triple;)V" } : Jvm.MethodName) ∈ lw_g := lw_m 829 (by decide +kernel) (by decide +kernel)
theorem k_830 : Jvm.Cond.code ({ cls := "ConicDesk$Triple", name := "cross", desc := "(LConicDesk$Triple;LConicDesk$Triple;)V" } : Jvm.MethodName) prog_12_method_6_code (3 : Nat) (Option.none : Option Jvm.ClassFile.FieldType) ∈ lw_g := lw_m 830 (by decide +kernel) (by decide +kernel)
theorem k_831 : Jvm.Cond.methodLink "ConicDesk" (364 : Nat) ({ cls := "ConicDesk$Triple", name := "isOn", desc := "(LConicDesk$Triple;I)Z" } : Jvm.MethodName) ∈ lw_g := lw_m 831 (by decide +kernel) (by decide +kernel)
theorem k_832 : Jvm.Cond.instanceMethod ({ cls := "ConicDesk$Triple", name := "isOn", desc := "(LConicDesk$Triple;I)Z" } : Jvm.MethodName) ∈ lw_g := lw_m 832 (by decide +kernel) (by decide +kernel)
theorem k_833 : Jvm.Cond.selects "ConicDesk$Triple" ({ cls := "ConicDesk$Triple", name := "isOn", desc := "(LConicDesk$Triple;I)Z" } : Jvm.MethodName) ({ cls := "ConicDesk$Triple", name := "isOn", desc := "(LConicDesk$Triple;I)Z" } : Jvm.MethodName) ∈ lw_g := lw_m 833 (by decide +kernel) (by decide +kernel)
theorem k_834 : Jvm.Cond.code ({ cls := "ConicDesk$Triple", name := "isOn", desc := "(LConicDesk$Triple;I)Z" } : Jvm.MethodName) prog_12_method_7_code (3 : Nat) (Option.some Jvm.ClassFile.FieldType.boolean) ∈ lw_g := lw_m 834 (by decide +kernel) (by decide +kernel)
theorem k_835 : Jvm.Cond.methodLink "ConicDesk$Triple" (31 : Nat) ({ cls := "ConicDesk$Field", name := "rest", desc := "(II)I" } : Jvm.MethodName) ∈ lw_g := lw_m 835 (by decide +kernel) (by decide +kernel)
theorem k_836 : Jvm.Cond.methodLink "ConicDeskLaw" (75 : Nat) ({ cls := "ConicDesk", name := "conic", desc := "(II)I" } : Jvm.MethodName) ∈ lw_g := lw_m 836 (by decide +kernel) (by decide +kernel)
theorem k_837 : Jvm.Cond.instanceMethod ({ cls := "ConicDesk", name := "conic", desc := "(II)I" } : Jvm.MethodName) ∈ lw_g := lw_m 837 (by decide +kernel) (by decide +kernel)
theorem k_838 : Jvm.Cond.selects "ConicDesk" ({ cls := "ConicDesk", name := "conic", desc := "(II)I" } : Jvm.MethodName) ({ cls := "ConicDesk", name := "conic", desc := "(II)I" } : Jvm.MethodName) ∈ lw_g := lw_m 838 (by decide +kernel) (by decide +kernel)
theorem k_839 : Jvm.Cond.code ({ cls := "ConicDesk", name := "conic", desc := "(II)I" } : Jvm.MethodName) prog_1_method_16_code (3 : Nat) (Option.some Jvm.ClassFile.FieldType.int) ∈ lw_g := lw_m 839 (by decide +kernel) (by decide +kernel)
theorem k_840 : Jvm.Cond.constant "ConicDesk" (246 : Nat) (-2000000000 : Int32) ∈ lw_g := lw_m 840 (by decide +kernel) (by decide +kernel)
theorem k_841 : Jvm.Cond.methodLink "ConicDesk" (247 : Nat) ({ cls := "ConicDesk", name := "overFractionsOrKind", desc := "(I)I" } : Jvm.MethodName) ∈ lw_g := lw_m 841 (by decide +kernel) (by decide +kernel)
theorem k_843 : Jvm.Cond.instanceMethod ({ cls := "ConicDesk", name := "overFractionsOrKind", desc := "(I)I" } : Jvm.MethodName) ∈ lw_g := lw_m 843 (by decide +kernel) (by decide +kernel)
theorem k_844 : Jvm.Cond.code ({ cls := "ConicDesk", name := "overFractionsOrKind", desc := "(I)I" } : Jvm.MethodName) prog_1_method_44_code (2 : Nat) (Option.some Jvm.ClassFile.FieldType.int) ∈ lw_g := lw_m 844 (by decide +kernel) (by decide +kernel)
theorem k_845 : Jvm.Cond.methodLink "ConicDesk" (346 : Nat) ({ cls := "ConicDesk$Form", name := "sort", desc := "()I" } : Jvm.MethodName) ∈ lw_g := lw_m 845 (by decide +kernel) (by decide +kernel)
theorem k_846 : Jvm.Cond.instanceMethod ({ cls := "ConicDesk$Form", name := "sort", desc := "()I" } : Jvm.MethodName) ∈ lw_g := lw_m 846 (by decide +kernel) (by decide +kernel)
theorem k_847 : Jvm.Cond.selects "ConicDesk$Form" ({ cls := "ConicDesk$Form", name := "sort", desc := "()I" } : Jvm.MethodName) ({ cls := "ConicDesk$Form", name := "sort", desc := "()I" } : Jvm.MethodName) ∈ lw_g := lw_m 847 (by decide +kernel) (by decide +kernel)
theorem k_848 : Jvm.Cond.code ({ cls := "ConicDesk$Form", name := "sort", desc := "()I" } : Jvm.MethodName) prog_5_method_16_code (1 : Nat) (Option.some Jvm.ClassFile.FieldType.int) ∈ lw_g := lw_m 848 (by decide +kernel) (by decide +kernel)
theorem k_849 : Jvm.Cond.methodLink "ConicDesk$Form" (44 : Nat) ({ cls := "ConicDesk$Form", name := "e", desc := "()I" } : Jvm.MethodName) ∈ lw_g := lw_m 849 (by decide +kernel) (by decide +kernel)
theorem k_850 : Jvm.Cond.methodLink "ConicDesk$Form" (48 : Nat) ({ cls := "ConicDesk$Form", name := "sortOfWhole", desc := "()I" } : Jvm.MethodName) ∈ lw_g := lw_m 850 (by decide +kernel) (by decide +kernel)
theorem k_852 : Jvm.Cond.instanceMethod ({ cls := "ConicDesk$Form", name := "sortOfWhole", desc := "()I" } : Jvm.MethodName) ∈ lw_g := lw_m 852 (by decide +kernel) (by decide +kernel)
theorem k_853 : Jvm.Cond.code ({ cls := "ConicDesk$Form", name := "sortOfWhole", desc := "()I" } : Jvm.MethodName) prog_5_method_17_code (1 : Nat) (Option.some Jvm.ClassFile.FieldType.int) ∈ lw_g := lw_m 853 (by decide +kernel) (by decide +kernel)
theorem k_854 : Jvm.Cond.methodLink "ConicDesk$Form" (54 : Nat) ({ cls := "ConicDesk$Form", name := "d", desc := "()I" } : Jvm.MethodName) ∈ lw_g := lw_m 854 (by decide +kernel) (by decide +kernel)
theorem k_855 : Jvm.Cond.methodLink "ConicDesk$Form" (51 : Nat) ({ cls := "ConicDesk$Form", name := "sortOfFallen", desc := "()I" } : Jvm.MethodName) ∈ lw_g := lw_m 855 (by decide +kernel) (by decide +kernel)
theorem k_857 : Jvm.Cond.instanceMethod ({ cls := "ConicDesk$Form", name := "sortOfFallen", desc := "()I" } : Jvm.MethodName) ∈ lw_g := lw_m 857 (by decide +kernel) (by decide +kernel)
theorem k_858 : Jvm.Cond.code ({ cls := "ConicDesk$Form", name := "sortOfFallen", desc := "()I" } : Jvm.MethodName) prog_5_method_18_code (1 : Nat) (Option.some Jvm.ClassFile.FieldType.int) ∈ lw_g := lw_m 858 (by decide +kernel) (by decide +kernel)
theorem k_859 : Jvm.Cond.methodLink "ConicDesk$Form" (57 : Nat) ({ cls := "ConicDesk$Form", name := "i", desc := "()I" } : Jvm.MethodName) ∈ lw_g := lw_m 859 (by decide +kernel) (by decide +kernel)
theorem k_860 : Jvm.Cond.instanceMethod ({ cls := "ConicDesk$Form", name := "i", desc := "()I" } : Jvm.MethodName) ∈ lw_g := lw_m 860 (by decide +kernel) (by decide +kernel)
theorem k_861 : Jvm.Cond.selects "ConicDesk$Form" ({ cls := "ConicDesk$Form", name := "i", desc := "()I" } : Jvm.MethodName) ({ cls := "ConicDesk$Form", name := "i", desc := "()I" } : Jvm.MethodName) ∈ lw_g := lw_m 861 (by decide +kernel) (by decide +kernel)
theorem k_862 : Jvm.Cond.code ({ cls := "ConicDesk$Form", name := "i", desc := "()I" } : Jvm.MethodName) prog_5_method_15_code (1 : Nat) (Option.some Jvm.ClassFile.FieldType.int) ∈ lw_g := lw_m 862 (by decide +kernel) (by decide +kernel)
theorem k_863 : Jvm.Cond.methodLink "ConicDesk" (349 : Nat) ({ cls := "ConicDesk$Curve", name := "rank", desc := "()I" } : Jvm.MethodName) ∈ lw_g := lw_m 863 (by decide +kernel) (by decide +kernel)
theorem k_864 : Jvm.Cond.methodLink "ConicDesk" (352 : Nat) ({ cls := "ConicDesk$Form", name := "d", desc := "()I" } : Jvm.MethodName) ∈ lw_g := lw_m 864 (by decide +kernel) (by decide +kernel)
theorem k_865 : Jvm.Cond.methodLink "ConicDesk" (355 : Nat) ({ cls := "ConicDesk$Form", name := "e", desc := "()I" } : Jvm.MethodName) ∈ lw_g := lw_m 865 (by decide +kernel) (by decide +kernel)
theorem k_866 : Jvm.Cond.methodLink "ConicDesk" (358 : Nat) ({ cls := "ConicDesk$Form", name := "i", desc := "()I" } : Jvm.MethodName) ∈ lw_g := lw_m 866 (by decide +kernel) (by decide +kernel)
theorem k_867 : Jvm.Cond.methodLink "ConicDesk" (250 : Nat) ({ cls := "ConicDesk", name := "overField", desc := "(I)I" } : Jvm.MethodName) ∈ lw_g := lw_m 867 (by decide +kernel) (by decide +kernel)
theorem k_869 : Jvm.Cond.instanceMethod ({ cls := "ConicDesk", name := "overField", desc := "(I)I" } : Jvm.MethodName) ∈ lw_g := lw_m 869 (by decide +kernel) (by decide +kernel)
theorem k_870 : Jvm.Cond.code ({ cls := "ConicDesk", name := "overField", desc := "(I)I" } : Jvm.MethodName) prog_1_method_45_code (4 : Nat) (Option.some Jvm.ClassFile.FieldType.int) ∈ lw_g := lw_m 870 (by decide +kernel) (by decide +kernel)
theorem k_871 : Jvm.Cond.methodLink "ConicDesk" (305 : Nat) ({ cls := "ConicDesk$Curve", name := "points", desc := "()I" } : Jvm.MethodName) ∈ lw_g := lw_m 871 (by decide +kernel) (by decide +kernel)
theorem k_872 : Jvm.Cond.instanceMethod ({ cls := "ConicDesk$Curve", name := "points", desc := "()I" } : Jvm.MethodName) ∈ lw_g := lw_m 872 (by decide +kernel) (by decide +kernel)
theorem k_873 : Jvm.Cond.selects "ConicDesk$Curve" ({ cls := "ConicDesk$Curve", name := "points", desc := "()I" } : Jvm.MethodName) ({ cls := "ConicDesk$Curve", name := "points", desc := "()I" } : Jvm.MethodName) ∈ lw_g := lw_m 873 (by decide +kernel) (by decide +kernel)
theorem k_874 : Jvm.Cond.code ({ cls := "ConicDesk$Curve", name := "points", desc := "()I" } : Jvm.MethodName) prog_2_method_10_code (1 : Nat) (Option.some Jvm.ClassFile.FieldType.int) ∈ lw_g := lw_m 874 (by decide +kernel) (by decide +kernel)
theorem k_875 : Jvm.Cond.methodLink "ConicDesk$Curve" (106 : Nat) ({ cls := "ConicDesk$Curve", name := "kind", desc := "()I" } : Jvm.MethodName) ∈ lw_g := lw_m 875 (by decide +kernel) (by decide +kernel)
theorem k_876 : Jvm.Cond.methodLink "ConicDesk$Curve" (109 : Nat) ({ cls := "ConicDesk$Field", name := "points", desc := "(I)I" } : Jvm.MethodName) ∈ lw_g := lw_m 876 (by decide +kernel) (by decide +kernel)
theorem k_877 : Jvm.Cond.methodLink "ConicDesk" (302 : Nat) ({ cls := "ConicDesk$Curve", name := "lines", desc := "()I" } : Jvm.MethodName) ∈ lw_g := lw_m 877 (by decide +kernel) (by decide +kernel)
theorem k_878 : Jvm.Cond.instanceMethod ({ cls := "ConicDesk$Curve", name := "lines", desc := "()I" } : Jvm.MethodName) ∈ lw_g := lw_m 878 (by decide +kernel) (by decide +kernel)
theorem k_879 : Jvm.Cond.selects "ConicDesk$Curve" ({ cls := "ConicDesk$Curve", name := "lines", desc := "()I" } : Jvm.MethodName) ({ cls := "ConicDesk$Curve", name := "lines", desc := "()I" } : Jvm.MethodName) ∈ lw_g := lw_m 879 (by decide +kernel) (by decide +kernel)
theorem k_880 : Jvm.Cond.code ({ cls := "ConicDesk$Curve", name := "lines", desc := "()I" } : Jvm.MethodName) prog_2_method_11_code (1 : Nat) (Option.some Jvm.ClassFile.FieldType.int) ∈ lw_g := lw_m 880 (by decide +kernel) (by decide +kernel)
theorem k_881 : Jvm.Cond.methodLink "ConicDeskLaw" (79 : Nat) ({ cls := "ConicDesk", name := "place", desc := "(II)I" } : Jvm.MethodName) ∈ lw_g := lw_m 881 (by decide +kernel) (by decide +kernel)
theorem k_882 : Jvm.Cond.instanceMethod ({ cls := "ConicDesk", name := "place", desc := "(II)I" } : Jvm.MethodName) ∈ lw_g := lw_m 882 (by decide +kernel) (by decide +kernel)
theorem k_883 : Jvm.Cond.selects "ConicDesk" ({ cls := "ConicDesk", name := "place", desc := "(II)I" } : Jvm.MethodName) ({ cls := "ConicDesk", name := "place", desc := "(II)I" } : Jvm.MethodName) ∈ lw_g := lw_m 883 (by decide +kernel) (by decide +kernel)
theorem k_884 : Jvm.Cond.code ({ cls := "ConicDesk", name := "place", desc := "(II)I" } : Jvm.MethodName) prog_1_method_17_code (3 : Nat) (Option.some Jvm.ClassFile.FieldType.int) ∈ lw_g := lw_m 884 (by decide +kernel) (by decide +kernel)
theorem k_885 : Jvm.Cond.methodLink "ConicDesk" (253 : Nat) ({ cls := "ConicDesk$Triple", name := "nth", desc := "(I)I" } : Jvm.MethodName) ∈ lw_g := lw_m 885 (by decide +kernel) (by decide +kernel)
theorem k_886 : Jvm.Cond.instanceMethod ({ cls := "ConicDesk$Triple", name := "nth", desc := "(I)I" } : Jvm.MethodName) ∈ lw_g := lw_m 886 (by decide +kernel) (by decide +kernel)
theorem k_887 : Jvm.Cond.selects "ConicDesk$Triple" ({ cls := "ConicDesk$Triple", name := "nth", desc := "(I)I" } : Jvm.MethodName) ({ cls := "ConicDesk$Triple", name := "nth", desc := "(I)I" } : Jvm.MethodName) ∈ lw_g := lw_m 887 (by decide +kernel) (by decide +kernel)
theorem k_888 : Jvm.Cond.code ({ cls := "ConicDesk$Triple", name := "nth", desc := "(I)I" } : Jvm.MethodName) prog_12_method_3_code (2 : Nat) (Option.some Jvm.ClassFile.FieldType.int) ∈ lw_g := lw_m 888 (by decide +kernel) (by decide +kernel)
theorem k_889 : Jvm.Cond.methodLink "ConicDeskLaw" (83 : Nat) ({ cls := "ConicDesk", name := "number", desc := "(III)I" } : Jvm.MethodName) ∈ lw_g := lw_m 889 (by decide +kernel) (by decide +kernel)
theorem k_890 : Jvm.Cond.instanceMethod ({ cls := "ConicDesk", name := "number", desc := "(III)I" } : Jvm.MethodName) ∈ lw_g := lw_m 890 (by decide +kernel) (by decide +kernel)
theorem k_891 : Jvm.Cond.selects "ConicDesk" ({ cls := "ConicDesk", name := "number", desc := "(III)I" } : Jvm.MethodName) ({ cls := "ConicDesk", name := "number", desc := "(III)I" } : Jvm.MethodName) ∈ lw_g := lw_m 891 (by decide +kernel) (by decide +kernel)
theorem k_892 : Jvm.Cond.code ({ cls := "ConicDesk", name := "number", desc := "(III)I" } : Jvm.MethodName) prog_1_method_18_code (4 : Nat) (Option.some Jvm.ClassFile.FieldType.int) ∈ lw_g := lw_m 892 (by decide +kernel) (by decide +kernel)
theorem k_893 : Jvm.Cond.methodLink "ConicDesk" (254 : Nat) ({ cls := "ConicDesk$Triple", name := "fill", desc := "(III)V" } : Jvm.MethodName) ∈ lw_g := lw_m 893 (by decide +kernel) (by decide +kernel)
theorem k_894 : Jvm.Cond.methodLink "ConicDesk" (258 : Nat) ({ cls := "ConicDesk$Triple", name := "numbered", desc := "(I)I" } : Jvm.MethodName) ∈ lw_g := lw_m 894 (by decide +kernel) (by decide +kernel)
theorem k_895 : Jvm.Cond.instanceMethod ({ cls := "ConicDesk$Triple", name := "numbered", desc := "(I)I" } : Jvm.MethodName) ∈ lw_g := lw_m 895 (by decide +kernel) (by decide +kernel)
theorem k_896 : Jvm.Cond.selects "ConicDesk$Triple" ({ cls := "ConicDesk$Triple", name := "numbered", desc := "(I)I" } : Jvm.MethodName) ({ cls := "ConicDesk$Triple", name := "numbered", desc := "(I)I" } : Jvm.MethodName) ∈ lw_g := lw_m 896 (by decide +kernel) (by decide +kernel)
theorem k_897 : Jvm.Cond.code ({ cls := "ConicDesk$Triple", name := "numbered", desc := "(I)I" } : Jvm.MethodName) prog_12_method_5_code (6 : Nat) (Option.some Jvm.ClassFile.FieldType.int) ∈ lw_g := lw_m 897 (by decide +kernel) (by decide +kernel)
theorem k_898 : Jvm.Cond.methodLink "ConicDesk$Triple" (35 : Nat) ({ cls := "ConicDesk$Field", name := "inverse", desc := "(II)I" } : Jvm.MethodName) ∈ lw_g := lw_m 898 (by decide +kernel) (by decide +kernel)
theorem k_899 : Jvm.Cond.methodLink "ConicDeskLaw" (87 : Nat) ({ cls := "ConicDesk", name := "joined", desc := "(II)I" } : Jvm.MethodName) ∈ lw_g := lw_m 899 (by decide +kernel) (by decide +kernel)
theorem k_900 : Jvm.Cond.instanceMethod ({ cls := "ConicDesk", name := "joined", desc := "(II)I" } : Jvm.MethodName) ∈ lw_g := lw_m 900 (by decide +kernel) (by decide +kernel)
theorem k_901 : Jvm.Cond.selects "ConicDesk" ({ cls := "ConicDesk", name := "joined", desc := "(II)I" } : Jvm.MethodName) ({ cls := "ConicDesk", name := "joined", desc := "(II)I" } : Jvm.MethodName) ∈ lw_g := lw_m 901 (by decide +kernel) (by decide +kernel)
theorem k_902 : Jvm.Cond.code ({ cls := "ConicDesk", name := "joined", desc := "(II)I" } : Jvm.MethodName) prog_1_method_19_code (4 : Nat) (Option.some Jvm.ClassFile.FieldType.int) ∈ lw_g := lw_m 902 (by decide +kernel) (by decide +kernel)
theorem k_903 : Jvm.Cond.methodLink "ConicDeskLaw" (91 : Nat) ({ cls := "ConicDesk", name := "marked", desc := "(I)I" } : Jvm.MethodName) ∈ lw_g := lw_m 903 (by decide +kernel) (by decide +kernel)
theorem k_904 : Jvm.Cond.instanceMethod ({ cls := "ConicDesk", name := "marked", desc := "(I)I" } : Jvm.MethodName) ∈ lw_g := lw_m 904 (by decide +kernel) (by decide +kernel)
theorem k_905 : Jvm.Cond.selects "ConicDesk" ({ cls := "ConicDesk", name := "marked", desc := "(I)I" } : Jvm.MethodName) ({ cls := "ConicDesk", name := "marked", desc := "(I)I" } : Jvm.MethodName) ∈ lw_g := lw_m 905 (by decide +kernel) (by decide +kernel)
theorem k_906 : Jvm.Cond.code ({ cls := "ConicDesk", name := "marked", desc := "(I)I" } : Jvm.MethodName) prog_1_method_20_code (2 : Nat) (Option.some Jvm.ClassFile.FieldType.int) ∈ lw_g := lw_m 906 (by decide +kernel) (by decide +kernel)
theorem k_907 : Jvm.Cond.methodLink "ConicDeskLaw" (95 : Nat) ({ cls := "ConicDesk", name := "lies", desc := "(II)I" } : Jvm.MethodName) ∈ lw_g := lw_m 907 (by decide +kernel) (by decide +kernel)
theorem k_908 : Jvm.Cond.instanceMethod ({ cls := "ConicDesk", name := "lies", desc := "(II)I" } : Jvm.MethodName) ∈ lw_g := lw_m 908 (by decide +kernel) (by decide +kernel)
theorem k_909 : Jvm.Cond.selects "ConicDesk" ({ cls := "ConicDesk", name := "lies", desc := "(II)I" } : Jvm.MethodName) ({ cls := "ConicDesk", name := "lies", desc := "(II)I" } : Jvm.MethodName) ∈ lw_g := lw_m 909 (by decide +kernel) (by decide +kernel)
theorem k_910 : Jvm.Cond.code ({ cls := "ConicDesk", name := "lies", desc := "(II)I" } : Jvm.MethodName) prog_1_method_21_code (3 : Nat) (Option.some Jvm.ClassFile.FieldType.int) ∈ lw_g := lw_m 910 (by decide +kernel) (by decide +kernel)
theorem k_911 : Jvm.Cond.methodLink "ConicDesk" (268 : Nat) ({ cls := "ConicDesk", name := "takeBoth", desc := "(II)Z" } : Jvm.MethodName) ∈ lw_g := lw_m 911 (by decide +kernel) (by decide +kernel)
theorem k_913 : Jvm.Cond.instanceMethod ({ cls := "ConicDesk", name := "takeBoth", desc := "(II)Z" } : Jvm.MethodName) ∈ lw_g := lw_m 913 (by decide +kernel) (by decide +kernel)
theorem k_914 : Jvm.Cond.code ({ cls := "ConicDesk", name := "takeBoth", desc := "(II)Z" } : Jvm.MethodName) prog_1_method_42_code (3 : Nat) (Option.some Jvm.ClassFile.FieldType.boolean) ∈ lw_g := lw_m 914 (by decide +kernel) (by decide +kernel)
theorem k_915 : Jvm.Cond.methodLink "ConicDesk" (271 : Nat) ({ cls := "ConicDesk$Curve", name := "valueAt", desc := "(LConicDesk$Triple;)I" } : Jvm.MethodName) ∈ lw_g := lw_m 915 (by decide +kernel) (by decide +kernel)
theorem k_916 : Jvm.Cond.methodLink "ConicDesk" (275 : Nat) ({ cls := "ConicDesk", name := "tangentsThroughSpot", desc := "()I" } : Jvm.MethodName) ∈ lw_g := lw_m 916 (by decide +kernel) (by decide +kernel)
theorem k_918 : Jvm.Cond.instanceMethod ({ cls := "ConicDesk", name := "tangentsThroughSpot", desc := "()I" } : Jvm.MethodName) ∈ lw_g := lw_m 918 (by decide +kernel) (by decide +kernel)
theorem k_919 : Jvm.Cond.code ({ cls := "ConicDesk", name := "tangentsThroughSpot", desc := "()I" } : Jvm.MethodName) prog_1_method_49_code (2 : Nat) (Option.some Jvm.ClassFile.FieldType.int) ∈ lw_g := lw_m 919 (by decide +kernel) (by decide +kernel)
theorem k_920 : Jvm.Cond.methodLink "ConicDesk" (284 : Nat) ({ cls := "ConicDesk$Curve", name := "polarOf", desc := "(LConicDesk$Triple;LConicDesk$Triple;)V" } : Jvm.MethodName) ∈ lw_g := lw_m 920 (by decide +kernel) (by decide +kernel)
theorem k_921 : Jvm.Cond.instanceMethod ({ cls := "ConicDesk$Curve", name := "polarOf", desc := "(LConicDesk$Triple;LConicDesk$Triple;)V" } : Jvm.MethodName) ∈ lw_g := lw_m 921 (by decide +kernel) (by decide +kernel)
theorem k_922 : Jvm.Cond.selects "ConicDesk$Curve" ({ cls := "ConicDesk$Curve", name := "polarOf", desc := "(LConicDesk$Triple;LConicDesk$Triple;)V" } : Jvm.MethodName) ({ cls := "ConicDesk$Curve", name := "polarOf", desc := "(LConicDesk$Triple;LConicDesk$Triple;)V" } : Jvm.MethodName) ∈ lw_g := lw_m 922 (by decide +kernel) (by decide +kernel)
theorem k_923 : Jvm.Cond.code ({ cls := "ConicDesk$Curve", name := "polarOf", desc := "(LConicDesk$Triple;LConicDesk$Triple;)V" } : Jvm.MethodName) prog_2_method_6_code (6 : Nat) (Option.none : Option Jvm.ClassFile.FieldType) ∈ lw_g := lw_m 923 (by decide +kernel) (by decide +kernel)
theorem k_924 : Jvm.Cond.methodLink "ConicDesk$Curve" (82 : Nat) ({ cls := "ConicDesk$Triple", name := "fill", desc := "(III)V" } : Jvm.MethodName) ∈ lw_g := lw_m 924 (by decide +kernel) (by decide +kernel)
theorem k_925 : Jvm.Cond.methodLink "ConicDesk" (287 : Nat) ({ cls := "ConicDesk$Curve", name := "crossings", desc := "(LConicDesk$Triple;)I" } : Jvm.MethodName) ∈ lw_g := lw_m 925 (by decide +kernel) (by decide +kernel)
theorem k_926 : Jvm.Cond.instanceMethod ({ cls := "ConicDesk$Curve", name := "crossings", desc := "(LConicDesk$Triple;)I" } : Jvm.MethodName) ∈ lw_g := lw_m 926 (by decide +kernel) (by decide +kernel)
theorem k_927 : Jvm.Cond.selects "ConicDesk$Curve" ({ cls := "ConicDesk$Curve", name := "crossings", desc := "(LConicDesk$Triple;)I" } : Jvm.MethodName) ({ cls := "ConicDesk$Curve", name := "crossings", desc := "(LConicDesk$Triple;)I" } : Jvm.MethodName) ∈ lw_g := lw_m 927 (by decide +kernel) (by decide +kernel)
theorem k_928 : Jvm.Cond.code ({ cls := "ConicDesk$Curve", name := "crossings", desc := "(LConicDesk$Triple;)I" } : Jvm.MethodName) prog_2_method_12_code (4 : Nat) (Option.some Jvm.ClassFile.FieldType.int) ∈ lw_g := lw_m 928 (by decide +kernel) (by decide +kernel)
theorem k_929 : Jvm.Cond.methodLink "ConicDesk$Curve" (113 : Nat) ({ cls := "ConicDesk$Curve", name := "zeros", desc := "(III)I" } : Jvm.MethodName) ∈ lw_g := lw_m 929 (by decide +kernel) (by decide +kernel)
theorem k_931 : Jvm.Cond.instanceMethod ({ cls := "ConicDesk$Curve", name := "zeros", desc := "(III)I" } : Jvm.MethodName) ∈ lw_g := lw_m 931 (by decide +kernel) (by decide +kernel)
theorem k_932 : Jvm.Cond.code ({ cls := "ConicDesk$Curve", name := "zeros", desc := "(III)I" } : Jvm.MethodName) prog_2_method_13_code (8 : Nat) (Option.some Jvm.ClassFile.FieldType.int) ∈ lw_g := lw_m 932 (by decide +kernel) (by decide +kernel)
theorem k_933 : Jvm.Cond.methodLink "ConicDeskLaw" (99 : Nat) ({ cls := "ConicDesk", name := "on", desc := "(IIZ)I" } : Jvm.MethodName) ∈ lw_g := lw_m 933 (by decide +kernel) (by decide +kernel)
theorem k_934 : Jvm.Cond.instanceMethod ({ cls := "ConicDesk", name := "on", desc := "(IIZ)I" } : Jvm.MethodName) ∈ lw_g := lw_m 934 (by decide +kernel) (by decide +kernel)
theorem k_935 : Jvm.Cond.selects "ConicDesk" ({ cls := "ConicDesk", name := "on", desc := "(IIZ)I" } : Jvm.MethodName) ({ cls := "ConicDesk", name := "on", desc := "(IIZ)I" } : Jvm.MethodName) ∈ lw_g := lw_m 935 (by decide +kernel) (by decide +kernel)
theorem k_936 : Jvm.Cond.code ({ cls := "ConicDesk", name := "on", desc := "(IIZ)I" } : Jvm.MethodName) prog_1_method_22_code (4 : Nat) (Option.some Jvm.ClassFile.FieldType.int) ∈ lw_g := lw_m 936 (by decide +kernel) (by decide +kernel)
theorem k_937 : Jvm.Cond.methodLink "ConicDesk" (278 : Nat) ({ cls := "ConicDesk", name := "nthLineOn", desc := "(I)I" } : Jvm.MethodName) ∈ lw_g := lw_m 937 (by decide +kernel) (by decide +kernel)
theorem k_939 : Jvm.Cond.instanceMethod ({ cls := "ConicDesk", name := "nthLineOn", desc := "(I)I" } : Jvm.MethodName) ∈ lw_g := lw_m 939 (by decide +kernel) (by decide +kernel)
theorem k_940 : Jvm.Cond.code ({ cls := "ConicDesk", name := "nthLineOn", desc := "(I)I" } : Jvm.MethodName) prog_1_method_52_code (5 : Nat) (Option.some Jvm.ClassFile.FieldType.int) ∈ lw_g := lw_m 940 (by decide +kernel) (by decide +kernel)
theorem k_941 : Jvm.Cond.methodLink "ConicDesk" (281 : Nat) ({ cls := "ConicDesk", name := "nthPointOn", desc := "(I)I" } : Jvm.MethodName) ∈ lw_g := lw_m 941 (by decide +kernel) (by decide +kernel)
theorem k_943 : Jvm.Cond.instanceMethod ({ cls := "ConicDesk", name := "nthPointOn", desc := "(I)I" } : Jvm.MethodName) ∈ lw_g := lw_m 943 (by decide +kernel) (by decide +kernel)
theorem k_944 : Jvm.Cond.code ({ cls := "ConicDesk", name := "nthPointOn", desc := "(I)I" } : Jvm.MethodName) prog_1_method_51_code (5 : Nat) (Option.some Jvm.ClassFile.FieldType.int) ∈ lw_g := lw_m 944 (by decide +kernel) (by decide +kernel)
theorem k_945 : Jvm.Cond.methodLink "ConicDeskLaw" (104 : Nat) ({ cls := "ConicDesk", name := "polar", desc := "(II)I" } : Jvm.MethodName) ∈ lw_g := lw_m 945 (by decide +kernel) (by decide +kernel)
theorem k_946 : Jvm.Cond.instanceMethod ({ cls := "ConicDesk", name := "polar", desc := "(II)I" } : Jvm.MethodName) ∈ lw_g := lw_m 946 (by decide +kernel) (by decide +kernel)
theorem k_947 : Jvm.Cond.selects "ConicDesk" ({ cls := "ConicDesk", name := "polar", desc := "(II)I" } : Jvm.MethodName) ({ cls := "ConicDesk", name := "polar", desc := "(II)I" } : Jvm.MethodName) ∈ lw_g := lw_m 947 (by decide +kernel) (by decide +kernel)
theorem k_948 : Jvm.Cond.code ({ cls := "ConicDesk", name := "polar", desc := "(II)I" } : Jvm.MethodName) prog_1_method_23_code (3 : Nat) (Option.some Jvm.ClassFile.FieldType.int) ∈ lw_g := lw_m 948 (by decide +kernel) (by decide +kernel)
theorem k_949 : Jvm.Cond.methodLink "ConicDeskLaw" (108 : Nat) ({ cls := "ConicDesk", name := "pole", desc := "(II)I" } : Jvm.MethodName) ∈ lw_g := lw_m 949 (by decide +kernel) (by decide +kernel)
theorem k_950 : Jvm.Cond.instanceMethod ({ cls := "ConicDesk", name := "pole", desc := "(II)I" } : Jvm.MethodName) ∈ lw_g := lw_m 950 (by decide +kernel) (by decide +kernel)
theorem k_951 : Jvm.Cond.selects "ConicDesk" ({ cls := "ConicDesk", name := "pole", desc := "(II)I" } : Jvm.MethodName) ({ cls := "ConicDesk", name := "pole", desc := "(II)I" } : Jvm.MethodName) ∈ lw_g := lw_m 951 (by decide +kernel) (by decide +kernel)
theorem k_952 : Jvm.Cond.code ({ cls := "ConicDesk", name := "pole", desc := "(II)I" } : Jvm.MethodName) prog_1_method_24_code (3 : Nat) (Option.some Jvm.ClassFile.FieldType.int) ∈ lw_g := lw_m 952 (by decide +kernel) (by decide +kernel)
theorem k_953 : Jvm.Cond.methodLink "ConicDeskLaw" (112 : Nat) ({ cls := "ConicDesk", name := "meets", desc := "(II)I" } : Jvm.MethodName) ∈ lw_g := lw_m 953 (by decide +kernel) (by decide +kernel)
theorem k_954 : Jvm.Cond.instanceMethod ({ cls := "ConicDesk", name := "meets", desc := "(II)I" } : Jvm.MethodName) ∈ lw_g := lw_m 954 (by decide +kernel) (by decide +kernel)
theorem k_955 : Jvm.Cond.selects "ConicDesk" ({ cls := "ConicDesk", name := "meets", desc := "(II)I" } : Jvm.MethodName) ({ cls := "ConicDesk", name := "meets", desc := "(II)I" } : Jvm.MethodName) ∈ lw_g := lw_m 955 (by decide +kernel) (by decide +kernel)
theorem k_956 : Jvm.Cond.code ({ cls := "ConicDesk", name := "meets", desc := "(II)I" } : Jvm.MethodName) prog_1_method_25_code (3 : Nat) (Option.some Jvm.ClassFile.FieldType.int) ∈ lw_g := lw_m 956 (by decide +kernel) (by decide +kernel)
theorem k_957 : Jvm.Cond.methodLink "ConicDeskLaw" (116 : Nat) ({ cls := "ConicDesk", name := "tangent", desc := "(III)I" } : Jvm.MethodName) ∈ lw_g := lw_m 957 (by decide +kernel) (by decide +kernel)
theorem k_958 : Jvm.Cond.instanceMethod ({ cls := "ConicDesk", name := "tangent", desc := "(III)I" } : Jvm.MethodName) ∈ lw_g := lw_m 958 (by decide +kernel) (by decide +kernel)
theorem k_959 : Jvm.Cond.selects "ConicDesk" ({ cls := "ConicDesk", name := "tangent", desc := "(III)I" } : Jvm.MethodName) ({ cls := "ConicDesk", name := "tangent", desc := "(III)I" } : Jvm.MethodName) ∈ lw_g := lw_m 959 (by decide +kernel) (by decide +kernel)
theorem k_960 : Jvm.Cond.code ({ cls := "ConicDesk", name := "tangent", desc := "(III)I" } : Jvm.MethodName) prog_1_method_26_code (4 : Nat) (Option.some Jvm.ClassFile.FieldType.int) ∈ lw_g := lw_m 960 (by decide +kernel) (by decide +kernel)
theorem k_961 : Jvm.Cond.methodLink "ConicDesk" (290 : Nat) ({ cls := "ConicDesk", name := "nthTangentThroughSpot", desc := "(I)I" } : Jvm.MethodName) ∈ lw_g := lw_m 961 (by decide +kernel) (by decide +kernel)
theorem k_963 : Jvm.Cond.instanceMethod ({ cls := "ConicDesk", name := "nthTangentThroughSpot", desc := "(I)I" } : Jvm.MethodName) ∈ lw_g := lw_m 963 (by decide +kernel) (by decide +kernel)
theorem k_964 : Jvm.Cond.code ({ cls := "ConicDesk", name := "nthTangentThroughSpot", desc := "(I)I" } : Jvm.MethodName) prog_1_method_50_code (5 : Nat) (Option.some Jvm.ClassFile.FieldType.int) ∈ lw_g := lw_m 964 (by decide +kernel) (by decide +kernel)
theorem k_965 : Jvm.Cond.methodLink "ConicDeskLaw" (120 : Nat) ({ cls := "ConicDesk", name := "pencil", desc := "(III)I" } : Jvm.MethodName) ∈ lw_g := lw_m 965 (by decide +kernel) (by decide +kernel)
theorem k_966 : Jvm.Cond.instanceMethod ({ cls := "ConicDesk", name := "pencil", desc := "(III)I" } : Jvm.MethodName) ∈ lw_g := lw_m 966 (by decide +kernel) (by decide +kernel)
theorem k_967 : Jvm.Cond.selects "ConicDesk" ({ cls := "ConicDesk", name := "pencil", desc := "(III)I" } : Jvm.MethodName) ({ cls := "ConicDesk", name := "pencil", desc := "(III)I" } : Jvm.MethodName) ∈ lw_g := lw_m 967 (by decide +kernel) (by decide +kernel)
theorem k_968 : Jvm.Cond.code ({ cls := "ConicDesk", name := "pencil", desc := "(III)I" } : Jvm.MethodName) prog_1_method_27_code (4 : Nat) (Option.some Jvm.ClassFile.FieldType.int) ∈ lw_g := lw_m 968 (by decide +kernel) (by decide +kernel)
theorem k_969 : Jvm.Cond.methodLink "ConicDesk" (293 : Nat) ({ cls := "ConicDesk", name := "takePencil", desc := "(II)Z" } : Jvm.MethodName) ∈ lw_g := lw_m 969 (by decide +kernel) (by decide +kernel)
theorem k_971 : Jvm.Cond.instanceMethod ({ cls := "ConicDesk", name := "takePencil", desc := "(II)Z" } : Jvm.MethodName) ∈ lw_g := lw_m 971 (by decide +kernel) (by decide +kernel)
theorem k_972 : Jvm.Cond.code ({ cls := "ConicDesk", name := "takePencil", desc := "(II)Z" } : Jvm.MethodName) prog_1_method_43_code (3 : Nat) (Option.some Jvm.ClassFile.FieldType.boolean) ∈ lw_g := lw_m 972 (by decide +kernel) (by decide +kernel)
theorem k_973 : Jvm.Cond.methodLink "ConicDesk" (343 : Nat) ({ cls := "ConicDesk$Pencil", name := "take", desc := "(LConicDesk$Sheet;II)Z" } : Jvm.MethodName) ∈ lw_g := lw_m 973 (by decide +kernel) (by decide +kernel)
theorem k_974 : Jvm.Cond.instanceMethod ({ cls := "ConicDesk$Pencil", name := "take", desc := "(LConicDesk$Sheet;II)Z" } : Jvm.MethodName) ∈ lw_g := lw_m 974 (by decide +kernel) (by decide +kernel)
theorem k_975 : Jvm.Cond.selects "ConicDesk$Pencil" ({ cls := "ConicDesk$Pencil", name := "take", desc := "(LConicDesk$Sheet;II)Z" } : Jvm.MethodName) ({ cls := "ConicDesk$Pencil", name := "take", desc := "(LConicDesk$Sheet;II)Z" } : Jvm.MethodName) ∈ lw_g := lw_m 975 (by decide +kernel) (by decide +kernel)
theorem k_976 : Jvm.Cond.code ({ cls := "ConicDesk$Pencil", name := "take", desc := "(LConicDesk$Sheet;II)Z" } : Jvm.MethodName) prog_8_method_2_code (4 : Nat) (Option.some Jvm.ClassFile.FieldType.boolean) ∈ lw_g := lw_m 976 (by decide +kernel) (by decide +kernel)
theorem k_977 : Jvm.Cond.methodLink "ConicDesk$Pencil" (34 : Nat) ({ cls := "ConicDesk$Curve", name := "take", desc := "(LConicDesk$Sheet;I)V" } : Jvm.MethodName) ∈ lw_g := lw_m 977 (by decide +kernel) (by decide +kernel)
theorem k_978 : Jvm.Cond.methodLink "ConicDesk$Pencil" (42 : Nat) ({ cls := "ConicDesk$Form", name := "isZero", desc := "()Z" } : Jvm.MethodName) ∈ lw_g := lw_m 978 (by decide +kernel) (by decide +kernel)
theorem k_979 : Jvm.Cond.methodLink "ConicDesk$Pencil" (48 : Nat) ({ cls := "ConicDesk$Curve", name := "isUnlike", desc := "(LConicDesk$Curve;)Z" } : Jvm.MethodName) ∈ lw_g := lw_m 979 (by decide +kernel) (by decide +kernel)
theorem k_980 : Jvm.Cond.instanceMethod ({ cls := "ConicDesk$Curve", name := "isUnlike", desc := "(LConicDesk$Curve;)Z" } : Jvm.MethodName) ∈ lw_g := lw_m 980 (by decide +kernel) (by decide +kernel)
theorem k_981 : Jvm.Cond.selects "ConicDesk$Curve" ({ cls := "ConicDesk$Curve", name := "isUnlike", desc := "(LConicDesk$Curve;)Z" } : Jvm.MethodName) ({ cls := "ConicDesk$Curve", name := "isUnlike", desc := "(LConicDesk$Curve;)Z" } : Jvm.MethodName) ∈ lw_g := lw_m 981 (by decide +kernel) (by decide +kernel)
theorem k_982 : Jvm.Cond.code ({ cls := "ConicDesk$Curve", name := "isUnlike", desc := "(LConicDesk$Curve;)Z" } : Jvm.MethodName) prog_2_method_14_code (5 : Nat) (Option.some Jvm.ClassFile.FieldType.boolean) ∈ lw_g := lw_m 982 (by decide +kernel) (by decide +kernel)
theorem k_983 : Jvm.Cond.methodLink "ConicDesk$Curve" (117 : Nat) ({ cls := "ConicDesk$Form", name := "nth", desc := "(I)I" } : Jvm.MethodName) ∈ lw_g := lw_m 983 (by decide +kernel) (by decide +kernel)
theorem k_984 : Jvm.Cond.methodLink "ConicDesk" (296 : Nat) ({ cls := "ConicDesk$Pencil", name := "takeMember", desc := "(I)Z" } : Jvm.MethodName) ∈ lw_g := lw_m 984 (by decide +kernel) (by decide +kernel)
theorem k_985 : Jvm.Cond.instanceMethod ({ cls := "ConicDesk$Pencil", name := "takeMember", desc := "(I)Z" } : Jvm.MethodName) ∈ lw_g := lw_m 985 (by decide +kernel) (by decide +kernel)
theorem k_986 : Jvm.Cond.selects "ConicDesk$Pencil" ({ cls := "ConicDesk$Pencil", name := "takeMember", desc := "(I)Z" } : Jvm.MethodName) ({ cls := "ConicDesk$Pencil", name := "takeMember", desc := "(I)Z" } : Jvm.MethodName) ∈ lw_g := lw_m 986 (by decide +kernel) (by decide +kernel)
theorem k_987 : Jvm.Cond.code ({ cls := "ConicDesk$Pencil", name := "takeMember", desc := "(I)Z" } : Jvm.MethodName) prog_8_method_3_code (2 : Nat) (Option.some Jvm.ClassFile.FieldType.boolean) ∈ lw_g := lw_m 987 (by decide +kernel) (by decide +kernel)
theorem k_988 : Jvm.Cond.methodLink "ConicDesk$Pencil" (56 : Nat) ({ cls := "ConicDesk$Curve", name := "mix", desc := "(LConicDesk$Curve;ILConicDesk$Curve;)V" } : Jvm.MethodName) ∈ lw_g := lw_m 988 (by decide +kernel) (by decide +kernel)
theorem k_989 : Jvm.Cond.instanceMethod ({ cls := "ConicDesk$Curve", name := "mix", desc := "(LConicDesk$Curve;ILConicDesk$Curve;)V" } : Jvm.MethodName) ∈ lw_g := lw_m 989 (by decide +kernel) (by decide +kernel)
theorem k_990 : Jvm.Cond.selects "ConicDesk$Curve" ({ cls := "ConicDesk$Curve", name := "mix", desc := "(LConicDesk$Curve;ILConicDesk$Curve;)V" } : Jvm.MethodName) ({ cls := "ConicDesk$Curve", name := "mix", desc := "(LConicDesk$Curve;ILConicDesk$Curve;)V" } : Jvm.MethodName) ∈ lw_g := lw_m 990 (by decide +kernel) (by decide +kernel)
theorem k_991 : Jvm.Cond.code ({ cls := "ConicDesk$Curve", name := "mix", desc := "(LConicDesk$Curve;ILConicDesk$Curve;)V" } : Jvm.MethodName) prog_2_method_4_code (4 : Nat) (Option.none : Option Jvm.ClassFile.FieldType) ∈ lw_g := lw_m 991 (by decide +kernel) (by decide +kernel)
theorem k_992 : Jvm.Cond.methodLink "ConicDesk$Curve" (57 : Nat) ({ cls := "ConicDesk$Form", name := "copy", desc := "(LConicDesk$Form;)V" } : Jvm.MethodName) ∈ lw_g := lw_m 992 (by decide +kernel) (by decide +kernel)
theorem k_993 : Jvm.Cond.methodLink "ConicDesk$Curve" (61 : Nat) ({ cls := "ConicDesk$Form", name := "blend", desc := "(IILConicDesk$Form;)V" } : Jvm.MethodName) ∈ lw_g := lw_m 993 (by decide +kernel) (by decide +kernel)
theorem k_994 : Jvm.Cond.methodLink "ConicDesk$Pencil" (60 : Nat) ({ cls := "ConicDesk$Form", name := "copy", desc := "(LConicDesk$Form;)V" } : Jvm.MethodName) ∈ lw_g := lw_m 994 (by decide +kernel) (by decide +kernel)
theorem k_995 : Jvm.Cond.methodLink "ConicDesk" (307 : Nat) ({ cls := "ConicDesk$Pencil", name := "nthOfBase", desc := "(I)I" } : Jvm.MethodName) ∈ lw_g := lw_m 995 (by decide +kernel) (by decide +kernel)
theorem k_996 : Jvm.Cond.instanceMethod ({ cls := "ConicDesk$Pencil", name := "nthOfBase", desc := "(I)I" } : Jvm.MethodName) ∈ lw_g := lw_m 996 (by decide +kernel) (by decide +kernel)
theorem k_997 : Jvm.Cond.selects "ConicDesk$Pencil" ({ cls := "ConicDesk$Pencil", name := "nthOfBase", desc := "(I)I" } : Jvm.MethodName) ({ cls := "ConicDesk$Pencil", name := "nthOfBase", desc := "(I)I" } : Jvm.MethodName) ∈ lw_g := lw_m 997 (by decide +kernel) (by decide +kernel)
theorem k_998 : Jvm.Cond.code ({ cls := "ConicDesk$Pencil", name := "nthOfBase", desc := "(I)I" } : Jvm.MethodName) prog_8_method_6_code (4 : Nat) (Option.some Jvm.ClassFile.FieldType.int) ∈ lw_g := lw_m 998 (by decide +kernel) (by decide +kernel)
theorem k_999 : Jvm.Cond.methodLink "ConicDesk$Pencil" (72 : Nat) ({ cls := "ConicDesk$Field", name := "points", desc := "(I)I" } : Jvm.MethodName) ∈ lw_g := lw_m 999 (by decide +kernel) (by decide +kernel)
theorem k_1000 : Jvm.Cond.methodLink "ConicDesk$Pencil" (78 : Nat) ({ cls := "ConicDesk$Pencil", name := "isOfBase", desc := "(I)Z" } : Jvm.MethodName) ∈ lw_g := lw_m 1000 (by decide +kernel) (by decide +kernel)
theorem k_1002 : Jvm.Cond.instanceMethod ({ cls := "ConicDesk$Pencil", name := "isOfBase", desc := "(I)Z" } : Jvm.MethodName) ∈ lw_g := lw_m 1002 (by decide +kernel) (by decide +kernel)
theorem k_1003 : Jvm.Cond.code ({ cls := "ConicDesk$Pencil", name := "isOfBase", desc := "(I)Z" } : Jvm.MethodName) prog_8_method_9_code (2 : Nat) (Option.some Jvm.ClassFile.FieldType.boolean) ∈ lw_g := lw_m 1003 (by decide +kernel) (by decide +kernel)
theorem k_1004 : Jvm.Cond.methodLink "ConicDesk$Pencil" (89 : Nat) ({ cls := "ConicDesk$Triple", name := "take", desc := "(II)Z" } : Jvm.MethodName) ∈ lw_g := lw_m 1004 (by decide +kernel) (by decide +kernel)
theorem k_1005 : Jvm.Cond.methodLink "ConicDesk$Pencil" (85 : Nat) ({ cls := "ConicDesk$Curve", name := "valueAt", desc := "(LConicDesk$Triple;)I" } : Jvm.MethodName) ∈ lw_g := lw_m 1005 (by decide +kernel) (by decide +kernel)
theorem k_1006 : Jvm.Cond.methodLink "ConicDesk" (310 : Nat) ({ cls := "ConicDesk$Pencil", name := "sizeOfBase", desc := "()I" } : Jvm.MethodName) ∈ lw_g := lw_m 1006 (by decide +kernel) (by decide +kernel)
theorem k_1007 : Jvm.Cond.instanceMethod ({ cls := "ConicDesk$Pencil", name := "sizeOfBase", desc := "()I" } : Jvm.MethodName) ∈ lw_g := lw_m 1007 (by decide +kernel) (by decide +kernel)
theorem k_1008 : Jvm.Cond.selects "ConicDesk$Pencil" ({ cls := "ConicDesk$Pencil", name := "sizeOfBase", desc := "()I" } : Jvm.MethodName) ({ cls := "ConicDesk$Pencil", name := "sizeOfBase", desc := "()I" } : Jvm.MethodName) ∈ lw_g := lw_m 1008 (by decide +kernel) (by decide +kernel)
theorem k_1009 : Jvm.Cond.code ({ cls := "ConicDesk$Pencil", name := "sizeOfBase", desc := "()I" } : Jvm.MethodName) prog_8_method_5_code (3 : Nat) (Option.some Jvm.ClassFile.FieldType.int) ∈ lw_g := lw_m 1009 (by decide +kernel) (by decide +kernel)
theorem k_1010 : Jvm.Cond.methodLink "ConicDesk" (313 : Nat) ({ cls := "ConicDesk$Pencil", name := "fallen", desc := "()I" } : Jvm.MethodName) ∈ lw_g := lw_m 1010 (by decide +kernel) (by decide +kernel)
theorem k_1011 : Jvm.Cond.instanceMethod ({ cls := "ConicDesk$Pencil", name := "fallen", desc := "()I" } : Jvm.MethodName) ∈ lw_g := lw_m 1011 (by decide +kernel) (by decide +kernel)
theorem k_1012 : Jvm.Cond.selects "ConicDesk$Pencil" ({ cls := "ConicDesk$Pencil", name := "fallen", desc := "()I" } : Jvm.MethodName) ({ cls := "ConicDesk$Pencil", name := "fallen", desc := "()I" } : Jvm.MethodName) ∈ lw_g := lw_m 1012 (by decide +kernel) (by decide +kernel)
theorem k_1013 : Jvm.Cond.code ({ cls := "ConicDesk$Pencil", name := "fallen", desc := "()I" } : Jvm.MethodName) prog_8_method_4_code (3 : Nat) (Option.some Jvm.ClassFile.FieldType.int) ∈ lw_g := lw_m 1013 (by decide +kernel) (by decide +kernel)
theorem k_1014 : Jvm.Cond.methodLink "ConicDesk$Pencil" (64 : Nat) ({ cls := "ConicDesk$Pencil", name := "takeMember", desc := "(I)Z" } : Jvm.MethodName) ∈ lw_g := lw_m 1014 (by decide +kernel) (by decide +kernel)
theorem k_1015 : Jvm.Cond.methodLink "ConicDesk$Pencil" (68 : Nat) ({ cls := "ConicDesk$Curve", name := "kind", desc := "()I" } : Jvm.MethodName) ∈ lw_g := lw_m 1015 (by decide +kernel) (by decide +kernel)
theorem k_1016 : Jvm.Cond.methodLink "ConicDesk" (316 : Nat) ({ cls := "ConicDesk$Pencil", name := "touching", desc := "()I" } : Jvm.MethodName) ∈ lw_g := lw_m 1016 (by decide +kernel) (by decide +kernel)
theorem k_1017 : Jvm.Cond.instanceMethod ({ cls := "ConicDesk$Pencil", name := "touching", desc := "()I" } : Jvm.MethodName) ∈ lw_g := lw_m 1017 (by decide +kernel) (by decide +kernel)
theorem k_1018 : Jvm.Cond.selects "ConicDesk$Pencil" ({ cls := "ConicDesk$Pencil", name := "touching", desc := "()I" } : Jvm.MethodName) ({ cls := "ConicDesk$Pencil", name := "touching", desc := "()I" } : Jvm.MethodName) ∈ lw_g := lw_m 1018 (by decide +kernel) (by decide +kernel)
theorem k_1019 : Jvm.Cond.code ({ cls := "ConicDesk$Pencil", name := "touching", desc := "()I" } : Jvm.MethodName) prog_8_method_7_code (3 : Nat) (Option.some Jvm.ClassFile.FieldType.int) ∈ lw_g := lw_m 1019 (by decide +kernel) (by decide +kernel)
theorem k_1020 : Jvm.Cond.methodLink "ConicDesk$Pencil" (81 : Nat) ({ cls := "ConicDesk$Pencil", name := "polarAtSpot", desc := "(LConicDesk$Curve;)I" } : Jvm.MethodName) ∈ lw_g := lw_m 1020 (by decide +kernel) (by decide +kernel)
theorem k_1022 : Jvm.Cond.instanceMethod ({ cls := "ConicDesk$Pencil", name := "polarAtSpot", desc := "(LConicDesk$Curve;)I" } : Jvm.MethodName) ∈ lw_g := lw_m 1022 (by decide +kernel) (by decide +kernel)
theorem k_1023 : Jvm.Cond.code ({ cls := "ConicDesk$Pencil", name := "polarAtSpot", desc := "(LConicDesk$Curve;)I" } : Jvm.MethodName) prog_8_method_10_code (2 : Nat) (Option.some Jvm.ClassFile.FieldType.int) ∈ lw_g := lw_m 1023 (by decide +kernel) (by decide +kernel)
theorem k_1024 : Jvm.Cond.methodLink "ConicDesk$Pencil" (92 : Nat) ({ cls := "ConicDesk$Curve", name := "polarOf", desc := "(LConicDesk$Triple;LConicDesk$Triple;)V" } : Jvm.MethodName) ∈ lw_g := lw_m 1024 (by decide +kernel) (by decide +kernel)
theorem k_1025 : Jvm.Cond.methodLink "ConicDesk$Pencil" (96 : Nat) ({ cls := "ConicDesk$Triple", name := "numbered", desc := "(I)I" } : Jvm.MethodName) ∈ lw_g := lw_m 1025 (by decide +kernel) (by decide +kernel)
theorem k_1026 : Jvm.Cond.methodLink "ConicDeskLaw" (124 : Nat) ({ cls := "ConicDesk", name := "member", desc := "(IIII)I" } : Jvm.MethodName) ∈ lw_g := lw_m 1026 (by decide +kernel) (by decide +kernel)
theorem k_1027 : Jvm.Cond.instanceMethod ({ cls := "ConicDesk", name := "member", desc := "(IIII)I" } : Jvm.MethodName) ∈ lw_g := lw_m 1027 (by decide +kernel) (by decide +kernel)
theorem k_1028 : Jvm.Cond.selects "ConicDesk" ({ cls := "ConicDesk", name := "member", desc := "(IIII)I" } : Jvm.MethodName) ({ cls := "ConicDesk", name := "member", desc := "(IIII)I" } : Jvm.MethodName) ∈ lw_g := lw_m 1028 (by decide +kernel) (by decide +kernel)
theorem k_1029 : Jvm.Cond.code ({ cls := "ConicDesk", name := "member", desc := "(IIII)I" } : Jvm.MethodName) prog_1_method_28_code (5 : Nat) (Option.some Jvm.ClassFile.FieldType.int) ∈ lw_g := lw_m 1029 (by decide +kernel) (by decide +kernel)
theorem k_1030 : Jvm.Cond.methodLink "ConicDeskLaw" (129 : Nat) ({ cls := "ConicDesk", name := "passing", desc := "(III)I" } : Jvm.MethodName) ∈ lw_g := lw_m 1030 (by decide +kernel) (by decide +kernel)
theorem k_1031 : Jvm.Cond.instanceMethod ({ cls := "ConicDesk", name := "passing", desc := "(III)I" } : Jvm.MethodName) ∈ lw_g := lw_m 1031 (by decide +kernel) (by decide +kernel)
theorem k_1032 : Jvm.Cond.selects "ConicDesk" ({ cls := "ConicDesk", name := "passing", desc := "(III)I" } : Jvm.MethodName) ({ cls := "ConicDesk", name := "passing", desc := "(III)I" } : Jvm.MethodName) ∈ lw_g := lw_m 1032 (by decide +kernel) (by decide +kernel)
theorem k_1033 : Jvm.Cond.code ({ cls := "ConicDesk", name := "passing", desc := "(III)I" } : Jvm.MethodName) prog_1_method_29_code (4 : Nat) (Option.some Jvm.ClassFile.FieldType.int) ∈ lw_g := lw_m 1033 (by decide +kernel) (by decide +kernel)
theorem k_1034 : Jvm.Cond.methodLink "ConicDesk" (319 : Nat) ({ cls := "ConicDesk$Pencil", name := "firstThrough", desc := "(LConicDesk$Triple;)I" } : Jvm.MethodName) ∈ lw_g := lw_m 1034 (by decide +kernel) (by decide +kernel)
theorem k_1035 : Jvm.Cond.instanceMethod ({ cls := "ConicDesk$Pencil", name := "firstThrough", desc := "(LConicDesk$Triple;)I" } : Jvm.MethodName) ∈ lw_g := lw_m 1035 (by decide +kernel) (by decide +kernel)
theorem k_1036 : Jvm.Cond.selects "ConicDesk$Pencil" ({ cls := "ConicDesk$Pencil", name := "firstThrough", desc := "(LConicDesk$Triple;)I" } : Jvm.MethodName) ({ cls := "ConicDesk$Pencil", name := "firstThrough", desc := "(LConicDesk$Triple;)I" } : Jvm.MethodName) ∈ lw_g := lw_m 1036 (by decide +kernel) (by decide +kernel)
theorem k_1037 : Jvm.Cond.code ({ cls := "ConicDesk$Pencil", name := "firstThrough", desc := "(LConicDesk$Triple;)I" } : Jvm.MethodName) prog_8_method_8_code (3 : Nat) (Option.some Jvm.ClassFile.FieldType.int) ∈ lw_g := lw_m 1037 (by decide +kernel) (by decide +kernel)
theorem k_1038 : Jvm.Cond.methodLink "ConicDeskLaw" (133 : Nat) ({ cls := "ConicDesk", name := "only", desc := "(I)I" } : Jvm.MethodName) ∈ lw_g := lw_m 1038 (by decide +kernel) (by decide +kernel)
theorem k_1039 : Jvm.Cond.instanceMethod ({ cls := "ConicDesk", name := "only", desc := "(I)I" } : Jvm.MethodName) ∈ lw_g := lw_m 1039 (by decide +kernel) (by decide +kernel)
theorem k_1040 : Jvm.Cond.selects "ConicDesk" ({ cls := "ConicDesk", name := "only", desc := "(I)I" } : Jvm.MethodName) ({ cls := "ConicDesk", name := "only", desc := "(I)I" } : Jvm.MethodName) ∈ lw_g := lw_m 1040 (by decide +kernel) (by decide +kernel)
theorem k_1041 : Jvm.Cond.code ({ cls := "ConicDesk", name := "only", desc := "(I)I" } : Jvm.MethodName) prog_1_method_30_code (2 : Nat) (Option.some Jvm.ClassFile.FieldType.int) ∈ lw_g := lw_m 1041 (by decide +kernel) (by decide +kernel)
theorem k_1042 : Jvm.Cond.methodLink "ConicDeskLaw" (137 : Nat) ({ cls := "ConicDesk", name := "freed", desc := "(I)I" } : Jvm.MethodName) ∈ lw_g := lw_m 1042 (by decide +kernel) (by decide +kernel)
theorem k_1043 : Jvm.Cond.instanceMethod ({ cls := "ConicDesk", name := "freed", desc := "(I)I" } : Jvm.MethodName) ∈ lw_g := lw_m 1043 (by decide +kernel) (by decide +kernel)
theorem k_1044 : Jvm.Cond.selects "ConicDesk" ({ cls := "ConicDesk", name := "freed", desc := "(I)I" } : Jvm.MethodName) ({ cls := "ConicDesk", name := "freed", desc := "(I)I" } : Jvm.MethodName) ∈ lw_g := lw_m 1044 (by decide +kernel) (by decide +kernel)
theorem k_1045 : Jvm.Cond.code ({ cls := "ConicDesk", name := "freed", desc := "(I)I" } : Jvm.MethodName) prog_1_method_31_code (2 : Nat) (Option.some Jvm.ClassFile.FieldType.int) ∈ lw_g := lw_m 1045 (by decide +kernel) (by decide +kernel)
theorem k_1046 : Jvm.Cond.methodLink "ConicDesk" (322 : Nat) ({ cls := "ConicDesk$Family", name := "isLessBy", desc := "(LConicDesk$Triple;)Z" } : Jvm.MethodName) ∈ lw_g := lw_m 1046 (by decide +kernel) (by decide +kernel)
theorem k_1047 : Jvm.Cond.instanceMethod ({ cls := "ConicDesk$Family", name := "isLessBy", desc := "(LConicDesk$Triple;)Z" } : Jvm.MethodName) ∈ lw_g := lw_m 1047 (by decide +kernel) (by decide +kernel)
theorem k_1048 : Jvm.Cond.selects "ConicDesk$Family" ({ cls := "ConicDesk$Family", name := "isLessBy", desc := "(LConicDesk$Triple;)Z" } : Jvm.MethodName) ({ cls := "ConicDesk$Family", name := "isLessBy", desc := "(LConicDesk$Triple;)Z" } : Jvm.MethodName) ∈ lw_g := lw_m 1048 (by decide +kernel) (by decide +kernel)
theorem k_1049 : Jvm.Cond.code ({ cls := "ConicDesk$Family", name := "isLessBy", desc := "(LConicDesk$Triple;)Z" } : Jvm.MethodName) prog_3_method_3_code (2 : Nat) (Option.some Jvm.ClassFile.FieldType.boolean) ∈ lw_g := lw_m 1049 (by decide +kernel) (by decide +kernel)
theorem k_1050 : Jvm.Cond.methodLink "ConicDeskLaw" (141 : Nat) ({ cls := "ConicDesk", name := "useful", desc := "()I" } : Jvm.MethodName) ∈ lw_g := lw_m 1050 (by decide +kernel) (by decide +kernel)
theorem k_1051 : Jvm.Cond.instanceMethod ({ cls := "ConicDesk", name := "useful", desc := "()I" } : Jvm.MethodName) ∈ lw_g := lw_m 1051 (by decide +kernel) (by decide +kernel)
theorem k_1052 : Jvm.Cond.selects "ConicDesk" ({ cls := "ConicDesk", name := "useful", desc := "()I" } : Jvm.MethodName) ({ cls := "ConicDesk", name := "useful", desc := "()I" } : Jvm.MethodName) ∈ lw_g := lw_m 1052 (by decide +kernel) (by decide +kernel)
theorem k_1053 : Jvm.Cond.code ({ cls := "ConicDesk", name := "useful", desc := "()I" } : Jvm.MethodName) prog_1_method_32_code (4 : Nat) (Option.some Jvm.ClassFile.FieldType.int) ∈ lw_g := lw_m 1053 (by decide +kernel) (by decide +kernel)
theorem k_1054 : Jvm.Cond.methodLink "ConicDeskLaw" (145 : Nat) ({ cls := "ConicDesk", name := "image", desc := "(I)Z" } : Jvm.MethodName) ∈ lw_g := lw_m 1054 (by decide +kernel) (by decide +kernel)
theorem k_1055 : Jvm.Cond.instanceMethod ({ cls := "ConicDesk", name := "image", desc := "(I)Z" } : Jvm.MethodName) ∈ lw_g := lw_m 1055 (by decide +kernel) (by decide +kernel)
theorem k_1056 : Jvm.Cond.selects "ConicDesk" ({ cls := "ConicDesk", name := "image", desc := "(I)Z" } : Jvm.MethodName) ({ cls := "ConicDesk", name := "image", desc := "(I)Z" } : Jvm.MethodName) ∈ lw_g := lw_m 1056 (by decide +kernel) (by decide +kernel)
theorem k_1057 : Jvm.Cond.code ({ cls := "ConicDesk", name := "image", desc := "(I)Z" } : Jvm.MethodName) prog_1_method_33_code (2 : Nat) (Option.some Jvm.ClassFile.FieldType.boolean) ∈ lw_g := lw_m 1057 (by decide +kernel) (by decide +kernel)
theorem k_1058 : Jvm.Cond.methodLink "ConicDesk" (326 : Nat) ({ cls := "ConicDesk$Moment", name := "copy", desc := "(LConicDesk$Moment;)V" } : Jvm.MethodName) ∈ lw_g := lw_m 1058 (by decide +kernel) (by decide +kernel)
theorem k_1059 : Jvm.Cond.instanceMethod ({ cls := "ConicDesk$Moment", name := "copy", desc := "(LConicDesk$Moment;)V" } : Jvm.MethodName) ∈ lw_g := lw_m 1059 (by decide +kernel) (by decide +kernel)
theorem k_1060 : Jvm.Cond.selects "ConicDesk$Moment" ({ cls := "ConicDesk$Moment", name := "copy", desc := "(LConicDesk$Moment;)V" } : Jvm.MethodName) ({ cls := "ConicDesk$Moment", name := "copy", desc := "(LConicDesk$Moment;)V" } : Jvm.MethodName) ∈ lw_g := lw_m 1060 (by decide +kernel) (by decide +kernel)
theorem k_1061 : Jvm.Cond.code ({ cls := "ConicDesk$Moment", name := "copy", desc := "(LConicDesk$Moment;)V" } : Jvm.MethodName) prog_6_method_2_code (2 : Nat) (Option.none : Option Jvm.ClassFile.FieldType) ∈ lw_g := lw_m 1061 (by decide +kernel) (by decide +kernel)
theorem k_1062 : Jvm.Cond.methodLink "ConicDesk$Moment" (38 : Nat) ({ cls := "ConicDesk$Sheet", name := "copy", desc := "(LConicDesk$Sheet;)V" } : Jvm.MethodName) ∈ lw_g := lw_m 1062 (by decide +kernel) (by decide +kernel)
theorem k_1063 : Jvm.Cond.methodLink "ConicDesk$Moment" (42 : Nat) ({ cls := "ConicDesk$Tape", name := "copy", desc := "(LConicDesk$Tape;)V" } : Jvm.MethodName) ∈ lw_g := lw_m 1063 (by decide +kernel) (by decide +kernel)
theorem k_1064 : Jvm.Cond.instanceMethod ({ cls := "ConicDesk$Tape", name := "copy", desc := "(LConicDesk$Tape;)V" } : Jvm.MethodName) ∈ lw_g := lw_m 1064 (by decide +kernel) (by decide +kernel)
theorem k_1065 : Jvm.Cond.selects "ConicDesk$Tape" ({ cls := "ConicDesk$Tape", name := "copy", desc := "(LConicDesk$Tape;)V" } : Jvm.MethodName) ({ cls := "ConicDesk$Tape", name := "copy", desc := "(LConicDesk$Tape;)V" } : Jvm.MethodName) ∈ lw_g := lw_m 1065 (by decide +kernel) (by decide +kernel)
theorem k_1066 : Jvm.Cond.code ({ cls := "ConicDesk$Tape", name := "copy", desc := "(LConicDesk$Tape;)V" } : Jvm.MethodName) prog_11_method_4_code (2 : Nat) (Option.none : Option Jvm.ClassFile.FieldType) ∈ lw_g := lw_m 1066 (by decide +kernel) (by decide +kernel)
theorem k_1067 : Jvm.Cond.methodLink "ConicDesk$Tape" (19 : Nat) ({ cls := "java/lang/System", name := "arraycopy", desc := "(Ljava/lang/Object;ILjava/lang/Object;II)V" } : Jvm.MethodName) ∈ lw_g := lw_m 1067 (by decide +kernel) (by decide +kernel)
theorem k_1068 : Jvm.Cond.methodLink "ConicDeskLaw" (150 : Nat) ({ cls := "ConicDesk", name := "again", desc := "(I)Z" } : Jvm.MethodName) ∈ lw_g := lw_m 1068 (by decide +kernel) (by decide +kernel)
theorem k_1069 : Jvm.Cond.instanceMethod ({ cls := "ConicDesk", name := "again", desc := "(I)Z" } : Jvm.MethodName) ∈ lw_g := lw_m 1069 (by decide +kernel) (by decide +kernel)
theorem k_1070 : Jvm.Cond.selects "ConicDesk" ({ cls := "ConicDesk", name := "again", desc := "(I)Z" } : Jvm.MethodName) ({ cls := "ConicDesk", name := "again", desc := "(I)Z" } : Jvm.MethodName) ∈ lw_g := lw_m 1070 (by decide +kernel) (by decide +kernel)
theorem k_1071 : Jvm.Cond.code ({ cls := "ConicDesk", name := "again", desc := "(I)Z" } : Jvm.MethodName) prog_1_method_34_code (2 : Nat) (Option.some Jvm.ClassFile.FieldType.boolean) ∈ lw_g := lw_m 1071 (by decide +kernel) (by decide +kernel)
theorem k_1072 : Jvm.Cond.classLink "ConicDeskLaw" (10 : Nat) "ConicDeskModel" ∈ lw_g := lw_m 1072 (by decide +kernel) (by decide +kernel)
theorem k_1073 : Jvm.Cond.instantiable "ConicDeskModel" (20 : Nat) ∈ lw_g := lw_m 1073 (by decide +kernel) (by decide +kernel)
theorem k_1074 : Jvm.Cond.methodLink "ConicDeskLaw" (12 : Nat) ({ cls := "ConicDeskModel", name := "<init>", desc := "()V" } : Jvm.MethodName) ∈ lw_g := lw_m 1074 (by decide +kernel) (by decide +kernel)
theorem k_1075 : Jvm.Cond.instanceMethod ({ cls := "ConicDeskModel", name := "<init>", desc := "()V" } : Jvm.MethodName) ∈ lw_g := lw_m 1075 (by decide +kernel) (by decide +kernel)
theorem k_1076 : Jvm.Cond.code ({ cls := "ConicDeskModel", name := "<init>", desc := "()V" } : Jvm.MethodName) prog_14_method_1_code (1 : Nat) (Option.none : Option Jvm.ClassFile.FieldType) ∈ lw_g := lw_m 1076 (by decide +kernel) (by decide +kernel)
theorem k_1077 : Jvm.Cond.methodLink "ConicDeskModel" (1 : Nat) ({ cls := "java/lang/Object", name := "<init>", desc := "()V" } : Jvm.MethodName) ∈ lw_g := lw_m 1077 (by decide +kernel) (by decide +kernel)
theorem k_1078 : Jvm.Cond.methodLink "ConicDeskModel" (36 : Nat) ({ cls := "ConicDeskModel", name := "firsts", desc := "(I)V" } : Jvm.MethodName) ∈ lw_g := lw_m 1078 (by decide +kernel) (by decide +kernel)
theorem k_1080 : Jvm.Cond.instanceMethod ({ cls := "ConicDeskModel", name := "firsts", desc := "(I)V" } : Jvm.MethodName) ∈ lw_g := lw_m 1080 (by decide +kernel) (by decide +kernel)
theorem k_1081 : Jvm.Cond.code ({ cls := "ConicDeskModel", name := "firsts", desc := "(I)V" } : Jvm.MethodName) prog_14_method_2_code (3 : Nat) (Option.none : Option Jvm.ClassFile.FieldType) ∈ lw_g := lw_m 1081 (by decide +kernel) (by decide +kernel)
theorem k_1082 : Jvm.Cond.fieldLink "ConicDeskModel" (7 : Nat) "ConicDeskModel" "all" "[I" ∈ lw_g := lw_m 1082 (by decide +kernel) (by decide +kernel)
theorem k_1083 : Jvm.Cond.fieldLink "ConicDeskModel" (13 : Nat) "ConicDeskModel" "tape" "[I" ∈ lw_g := lw_m 1083 (by decide +kernel) (by decide +kernel)
theorem k_1084 : Jvm.Cond.fieldLink "ConicDeskModel" (16 : Nat) "ConicDeskModel" "isImage" "[Z" ∈ lw_g := lw_m 1084 (by decide +kernel) (by decide +kernel)
theorem k_1085 : Jvm.Cond.fieldLink "ConicDeskModel" (173 : Nat) "ConicDeskModel" "taped" "I" ∈ lw_g := lw_m 1085 (by decide +kernel) (by decide +kernel)
theorem k_1086 : Jvm.Cond.fieldLink "ConicDeskModel" (216 : Nat) "ConicDeskModel" "faultKind" "I" ∈ lw_g := lw_m 1086 (by decide +kernel) (by decide +kernel)
theorem k_1087 : Jvm.Cond.fieldLink "ConicDeskModel" (20 : Nat) "ConicDeskModel" "faultPlace" "I" ∈ lw_g := lw_m 1087 (by decide +kernel) (by decide +kernel)
theorem k_1088 : Jvm.Cond.fieldLink "ConicDeskModel" (106 : Nat) "ConicDeskModel" "undos" "I" ∈ lw_g := lw_m 1088 (by decide +kernel) (by decide +kernel)
theorem k_1089 : Jvm.Cond.fieldLink "ConicDeskModel" (40 : Nat) "ConicDeskModel" "p" "I" ∈ lw_g := lw_m 1089 (by decide +kernel) (by decide +kernel)
theorem k_1090 : Jvm.Cond.fieldLink "ConicDeskModel" (43 : Nat) "ConicDeskModel" "px" "I" ∈ lw_g := lw_m 1090 (by decide +kernel) (by decide +kernel)
theorem k_1091 : Jvm.Cond.fieldLink "ConicDeskModel" (46 : Nat) "ConicDeskModel" "py" "I" ∈ lw_g := lw_m 1091 (by decide +kernel) (by decide +kernel)
theorem k_1092 : Jvm.Cond.fieldLink "ConicDeskModel" (49 : Nat) "ConicDeskModel" "pz" "I" ∈ lw_g := lw_m 1092 (by decide +kernel) (by decide +kernel)
theorem k_1093 : Jvm.Cond.fieldLink "ConicDeskModel" (24 : Nat) "ConicDeskModel" "m" "[I" ∈ lw_g := lw_m 1093 (by decide +kernel) (by decide +kernel)
theorem k_1094 : Jvm.Cond.fieldLink "ConicDeskModel" (27 : Nat) "ConicDeskModel" "row" "[I" ∈ lw_g := lw_m 1094 (by decide +kernel) (by decide +kernel)
theorem k_1095 : Jvm.Cond.fieldLink "ConicDeskModel" (30 : Nat) "ConicDeskModel" "its" "[I" ∈ lw_g := lw_m 1095 (by decide +kernel) (by decide +kernel)
theorem k_1096 : Jvm.Cond.fieldLink "ConicDeskModel" (219 : Nat) "ConicDeskModel" "size0" "I" ∈ lw_g := lw_m 1096 (by decide +kernel) (by decide +kernel)
theorem k_1097 : Jvm.Cond.fieldLink "ConicDeskModel" (222 : Nat) "ConicDeskModel" "next" "I" ∈ lw_g := lw_m 1097 (by decide +kernel) (by decide +kernel)
theorem k_1098 : Jvm.Cond.fieldLink "ConicDeskModel" (235 : Nat) "ConicDeskModel" "token" "I" ∈ lw_g := lw_m 1098 (by decide +kernel) (by decide +kernel)
theorem k_1099 : Jvm.Cond.fieldLink "ConicDeskModel" (228 : Nat) "ConicDeskModel" "place" "I" ∈ lw_g := lw_m 1099 (by decide +kernel) (by decide +kernel)
theorem k_1100 : Jvm.Cond.fieldLink "ConicDeskModel" (231 : Nat) "ConicDeskModel" "value" "J" ∈ lw_g := lw_m 1100 (by decide +kernel) (by decide +kernel)
theorem k_1101 : Jvm.Cond.fieldLink "ConicDeskModel" (33 : Nat) "ConicDeskModel" "six" "[I" ∈ lw_g := lw_m 1101 (by decide +kernel) (by decide +kernel)
theorem k_1143 : Jvm.Cond.methodLink "ConicDeskLaw" (35 : Nat) ({ cls := "ConicDeskModel", name := "prime", desc := "(I)I" } : Jvm.MethodName) ∈ lw_g := lw_m 1143 (by decide +kernel) (by decide +kernel)
theorem k_1144 : Jvm.Cond.instanceMethod ({ cls := "ConicDeskModel", name := "prime", desc := "(I)I" } : Jvm.MethodName) ∈ lw_g := lw_m 1144 (by decide +kernel) (by decide +kernel)
theorem k_1145 : Jvm.Cond.selects "ConicDeskModel" ({ cls := "ConicDeskModel", name := "prime", desc := "(I)I" } : Jvm.MethodName) ({ cls := "ConicDeskModel", name := "prime", desc := "(I)I" } : Jvm.MethodName) ∈ lw_g := lw_m 1145 (by decide +kernel) (by decide +kernel)
theorem k_1146 : Jvm.Cond.code ({ cls := "ConicDeskModel", name := "prime", desc := "(I)I" } : Jvm.MethodName) prog_14_method_36_code (2 : Nat) (Option.some Jvm.ClassFile.FieldType.int) ∈ lw_g := lw_m 1146 (by decide +kernel) (by decide +kernel)
theorem k_1147 : Jvm.Cond.methodLink "ConicDeskModel" (133 : Nat) ({ cls := "ConicDeskModel", name := "isPrime", desc := "(I)Z" } : Jvm.MethodName) ∈ lw_g := lw_m 1147 (by decide +kernel) (by decide +kernel)
theorem k_1148 : Jvm.Cond.static ({ cls := "ConicDeskModel", name := "isPrime", desc := "(I)Z" } : Jvm.MethodName) ∈ lw_g := lw_m 1148 (by decide +kernel) (by decide +kernel)
theorem k_1149 : Jvm.Cond.code ({ cls := "ConicDeskModel", name := "isPrime", desc := "(I)Z" } : Jvm.MethodName) prog_14_method_5_code (1 : Nat) (Option.some Jvm.ClassFile.FieldType.boolean) ∈ lw_g := lw_m 1149 (by decide +kernel) (by decide +kernel)
theorem k_1150 : Jvm.Cond.methodLink "ConicDeskModel" (123 : Nat) ({ cls := "ConicDeskModel", name := "refused", desc := "(II)I" } : Jvm.MethodName) ∈ lw_g := lw_m 1150 (by decide +kernel) (by decide +kernel)
theorem k_1152 : Jvm.Cond.instanceMethod ({ cls := "ConicDeskModel", name := "refused", desc := "(II)I" } : Jvm.MethodName) ∈ lw_g := lw_m 1152 (by decide +kernel) (by decide +kernel)
theorem k_1153 : Jvm.Cond.code ({ cls := "ConicDeskModel", name := "refused", desc := "(II)I" } : Jvm.MethodName) prog_14_method_29_code (3 : Nat) (Option.some Jvm.ClassFile.FieldType.int) ∈ lw_g := lw_m 1153 (by decide +kernel) (by decide +kernel)
theorem k_1154 : Jvm.Cond.methodLink "ConicDeskModel" (126 : Nat) ({ cls := "ConicDeskModel", name := "keeps", desc := "()V" } : Jvm.MethodName) ∈ lw_g := lw_m 1154 (by decide +kernel) (by decide +kernel)
theorem k_1156 : Jvm.Cond.instanceMethod ({ cls := "ConicDeskModel", name := "keeps", desc := "()V" } : Jvm.MethodName) ∈ lw_g := lw_m 1156 (by decide +kernel) (by decide +kernel)
theorem k_1157 : Jvm.Cond.code ({ cls := "ConicDeskModel", name := "keeps", desc := "()V" } : Jvm.MethodName) prog_14_method_28_code (1 : Nat) (Option.none : Option Jvm.ClassFile.FieldType) ∈ lw_g := lw_m 1157 (by decide +kernel) (by decide +kernel)
theorem k_1158 : Jvm.Cond.methodLink "ConicDeskModel" (109 : Nat) ({ cls := "ConicDeskModel", name := "copies", desc := "(III)V" } : Jvm.MethodName) ∈ lw_g := lw_m 1158 (by decide +kernel) (by decide +kernel)
theorem k_1160 : Jvm.Cond.instanceMethod ({ cls := "ConicDeskModel", name := "copies", desc := "(III)V" } : Jvm.MethodName) ∈ lw_g := lw_m 1160 (by decide +kernel) (by decide +kernel)
theorem k_1161 : Jvm.Cond.code ({ cls := "ConicDeskModel", name := "copies", desc := "(III)V" } : Jvm.MethodName) prog_14_method_4_code (5 : Nat) (Option.none : Option Jvm.ClassFile.FieldType) ∈ lw_g := lw_m 1161 (by decide +kernel) (by decide +kernel)
theorem k_1162 : Jvm.Cond.methodLink "ConicDeskLaw" (40 : Nat) ({ cls := "ConicDeskModel", name := "set", desc := "(III)I" } : Jvm.MethodName) ∈ lw_g := lw_m 1162 (by decide +kernel) (by decide +kernel)
theorem k_1163 : Jvm.Cond.instanceMethod ({ cls := "ConicDeskModel", name := "set", desc := "(III)I" } : Jvm.MethodName) ∈ lw_g := lw_m 1163 (by decide +kernel) (by decide +kernel)
theorem k_1164 : Jvm.Cond.selects "ConicDeskModel" ({ cls := "ConicDeskModel", name := "set", desc := "(III)I" } : Jvm.MethodName) ({ cls := "ConicDeskModel", name := "set", desc := "(III)I" } : Jvm.MethodName) ∈ lw_g := lw_m 1164 (by decide +kernel) (by decide +kernel)
theorem k_1165 : Jvm.Cond.code ({ cls := "ConicDeskModel", name := "set", desc := "(III)I" } : Jvm.MethodName) prog_14_method_37_code (4 : Nat) (Option.some Jvm.ClassFile.FieldType.int) ∈ lw_g := lw_m 1165 (by decide +kernel) (by decide +kernel)
theorem k_1166 : Jvm.Cond.methodLink "ConicDeskModel" (136 : Nat) ({ cls := "ConicDeskModel", name := "isConic", desc := "(I)Z" } : Jvm.MethodName) ∈ lw_g := lw_m 1166 (by decide +kernel) (by decide +kernel)
theorem k_1167 : Jvm.Cond.static ({ cls := "ConicDeskModel", name := "isConic", desc := "(I)Z" } : Jvm.MethodName) ∈ lw_g := lw_m 1167 (by decide +kernel) (by decide +kernel)
theorem k_1168 : Jvm.Cond.code ({ cls := "ConicDeskModel", name := "isConic", desc := "(I)Z" } : Jvm.MethodName) prog_14_method_30_code (1 : Nat) (Option.some Jvm.ClassFile.FieldType.boolean) ∈ lw_g := lw_m 1168 (by decide +kernel) (by decide +kernel)
theorem k_1169 : Jvm.Cond.methodLink "ConicDeskModel" (113 : Nat) ({ cls := "ConicDeskModel", name := "isIn", desc := "(III)Z" } : Jvm.MethodName) ∈ lw_g := lw_m 1169 (by decide +kernel) (by decide +kernel)
theorem k_1170 : Jvm.Cond.static ({ cls := "ConicDeskModel", name := "isIn", desc := "(III)Z" } : Jvm.MethodName) ∈ lw_g := lw_m 1170 (by decide +kernel) (by decide +kernel)
theorem k_1171 : Jvm.Cond.code ({ cls := "ConicDeskModel", name := "isIn", desc := "(III)Z" } : Jvm.MethodName) prog_14_method_3_code (3 : Nat) (Option.some Jvm.ClassFile.FieldType.boolean) ∈ lw_g := lw_m 1171 (by decide +kernel) (by decide +kernel)
theorem k_1172 : Jvm.Cond.methodLink "ConicDeskModel" (117 : Nat) ({ cls := "ConicDeskModel", name := "isShort", desc := "(I)Z" } : Jvm.MethodName) ∈ lw_g := lw_m 1172 (by decide +kernel) (by decide +kernel)
theorem k_1173 : Jvm.Cond.static ({ cls := "ConicDeskModel", name := "isShort", desc := "(I)Z" } : Jvm.MethodName) ∈ lw_g := lw_m 1173 (by decide +kernel) (by decide +kernel)
theorem k_1174 : Jvm.Cond.code ({ cls := "ConicDeskModel", name := "isShort", desc := "(I)Z" } : Jvm.MethodName) prog_14_method_31_code (1 : Nat) (Option.some Jvm.ClassFile.FieldType.boolean) ∈ lw_g := lw_m 1174 (by decide +kernel) (by decide +kernel)
theorem k_1175 : Jvm.Cond.methodLink "ConicDeskModel" (139 : Nat) ({ cls := "ConicDeskModel", name := "laysIts", desc := "(I)V" } : Jvm.MethodName) ∈ lw_g := lw_m 1175 (by decide +kernel) (by decide +kernel)
theorem k_1177 : Jvm.Cond.instanceMethod ({ cls := "ConicDeskModel", name := "laysIts", desc := "(I)V" } : Jvm.MethodName) ∈ lw_g := lw_m 1177 (by decide +kernel) (by decide +kernel)
theorem k_1178 : Jvm.Cond.code ({ cls := "ConicDeskModel", name := "laysIts", desc := "(I)V" } : Jvm.MethodName) prog_14_method_35_code (3 : Nat) (Option.none : Option Jvm.ClassFile.FieldType) ∈ lw_g := lw_m 1178 (by decide +kernel) (by decide +kernel)
theorem k_1179 : Jvm.Cond.methodLink "ConicDeskModel" (142 : Nat) ({ cls := "ConicDeskModel", name := "becomes", desc := "(I)I" } : Jvm.MethodName) ∈ lw_g := lw_m 1179 (by decide +kernel) (by decide +kernel)
theorem k_1181 : Jvm.Cond.instanceMethod ({ cls := "ConicDeskModel", name := "becomes", desc := "(I)I" } : Jvm.MethodName) ∈ lw_g := lw_m 1181 (by decide +kernel) (by decide +kernel)
theorem k_1182 : Jvm.Cond.code ({ cls := "ConicDeskModel", name := "becomes", desc := "(I)I" } : Jvm.MethodName) prog_14_method_34_code (3 : Nat) (Option.some Jvm.ClassFile.FieldType.int) ∈ lw_g := lw_m 1182 (by decide +kernel) (by decide +kernel)
theorem k_1183 : Jvm.Cond.methodLink "ConicDeskModel" (120 : Nat) ({ cls := "ConicDeskModel", name := "whyNot", desc := "()I" } : Jvm.MethodName) ∈ lw_g := lw_m 1183 (by decide +kernel) (by decide +kernel)
theorem k_1185 : Jvm.Cond.instanceMethod ({ cls := "ConicDeskModel", name := "whyNot", desc := "()I" } : Jvm.MethodName) ∈ lw_g := lw_m 1185 (by decide +kernel) (by decide +kernel)
theorem k_1186 : Jvm.Cond.code ({ cls := "ConicDeskModel", name := "whyNot", desc := "()I" } : Jvm.MethodName) prog_14_method_32_code (3 : Nat) (Option.some Jvm.ClassFile.FieldType.int) ∈ lw_g := lw_m 1186 (by decide +kernel) (by decide +kernel)
theorem k_1187 : Jvm.Cond.methodLink "ConicDeskModel" (129 : Nat) ({ cls := "ConicDeskModel", name := "takesIts", desc := "(II)V" } : Jvm.MethodName) ∈ lw_g := lw_m 1187 (by decide +kernel) (by decide +kernel)
theorem k_1189 : Jvm.Cond.instanceMethod ({ cls := "ConicDeskModel", name := "takesIts", desc := "(II)V" } : Jvm.MethodName) ∈ lw_g := lw_m 1189 (by decide +kernel) (by decide +kernel)
theorem k_1190 : Jvm.Cond.code ({ cls := "ConicDeskModel", name := "takesIts", desc := "(II)V" } : Jvm.MethodName) prog_14_method_33_code (4 : Nat) (Option.none : Option Jvm.ClassFile.FieldType) ∈ lw_g := lw_m 1190 (by decide +kernel) (by decide +kernel)
theorem k_1191 : Jvm.Cond.methodLink "ConicDeskLaw" (44 : Nat) ({ cls := "ConicDeskModel", name := "sum", desc := "(IIIII)I" } : Jvm.MethodName) ∈ lw_g := lw_m 1191 (by decide +kernel) (by decide +kernel)
theorem k_1192 : Jvm.Cond.instanceMethod ({ cls := "ConicDeskModel", name := "sum", desc := "(IIIII)I" } : Jvm.MethodName) ∈ lw_g := lw_m 1192 (by decide +kernel) (by decide +kernel)
theorem k_1193 : Jvm.Cond.selects "ConicDeskModel" ({ cls := "ConicDeskModel", name := "sum", desc := "(IIIII)I" } : Jvm.MethodName) ({ cls := "ConicDeskModel", name := "sum", desc := "(IIIII)I" } : Jvm.MethodName) ∈ lw_g := lw_m 1193 (by decide +kernel) (by decide +kernel)
theorem k_1194 : Jvm.Cond.code ({ cls := "ConicDeskModel", name := "sum", desc := "(IIIII)I" } : Jvm.MethodName) prog_14_method_38_code (7 : Nat) (Option.some Jvm.ClassFile.FieldType.int) ∈ lw_g := lw_m 1194 (by decide +kernel) (by decide +kernel)
theorem k_1195 : Jvm.Cond.methodLink "ConicDeskLaw" (49 : Nat) ({ cls := "ConicDeskModel", name := "turn", desc := "(II)I" } : Jvm.MethodName) ∈ lw_g := lw_m 1195 (by decide +kernel) (by decide +kernel)
theorem k_1196 : Jvm.Cond.instanceMethod ({ cls := "ConicDeskModel", name := "turn", desc := "(II)I" } : Jvm.MethodName) ∈ lw_g := lw_m 1196 (by decide +kernel) (by decide +kernel)
theorem k_1197 : Jvm.Cond.selects "ConicDeskModel" ({ cls := "ConicDeskModel", name := "turn", desc := "(II)I" } : Jvm.MethodName) ({ cls := "ConicDeskModel", name := "turn", desc := "(II)I" } : Jvm.MethodName) ∈ lw_g := lw_m 1197 (by decide +kernel) (by decide +kernel)
theorem k_1198 : Jvm.Cond.code ({ cls := "ConicDeskModel", name := "turn", desc := "(II)I" } : Jvm.MethodName) prog_14_method_39_code (4 : Nat) (Option.some Jvm.ClassFile.FieldType.int) ∈ lw_g := lw_m 1198 (by decide +kernel) (by decide +kernel)
theorem k_1199 : Jvm.Cond.methodLink "ConicDeskModel" (145 : Nat) ({ cls := "ConicDeskModel", name := "laysConic", desc := "(II)V" } : Jvm.MethodName) ∈ lw_g := lw_m 1199 (by decide +kernel) (by decide +kernel)
theorem k_1201 : Jvm.Cond.instanceMethod ({ cls := "ConicDeskModel", name := "laysConic", desc := "(II)V" } : Jvm.MethodName) ∈ lw_g := lw_m 1201 (by decide +kernel) (by decide +kernel)
theorem k_1202 : Jvm.Cond.code ({ cls := "ConicDeskModel", name := "laysConic", desc := "(II)V" } : Jvm.MethodName) prog_14_method_12_code (4 : Nat) (Option.none : Option Jvm.ClassFile.FieldType) ∈ lw_g := lw_m 1202 (by decide +kernel) (by decide +kernel)
theorem k_1203 : Jvm.Cond.methodLink "ConicDeskModel" (52 : Nat) ({ cls := "ConicDeskModel", name := "rest", desc := "(I)I" } : Jvm.MethodName) ∈ lw_g := lw_m 1203 (by decide +kernel) (by decide +kernel)
theorem k_1205 : Jvm.Cond.instanceMethod ({ cls := "ConicDeskModel", name := "rest", desc := "(I)I" } : Jvm.MethodName) ∈ lw_g := lw_m 1205 (by decide +kernel) (by decide +kernel)
theorem k_1206 : Jvm.Cond.code ({ cls := "ConicDeskModel", name := "rest", desc := "(I)I" } : Jvm.MethodName) prog_14_method_6_code (2 : Nat) (Option.some Jvm.ClassFile.FieldType.int) ∈ lw_g := lw_m 1206 (by decide +kernel) (by decide +kernel)
theorem k_1207 : Jvm.Cond.methodLink "ConicDeskModel" (148 : Nat) ({ cls := "ConicDeskModel", name := "kindOf", desc := "()I" } : Jvm.MethodName) ∈ lw_g := lw_m 1207 (by decide +kernel) (by decide +kernel)
theorem k_1209 : Jvm.Cond.instanceMethod ({ cls := "ConicDeskModel", name := "kindOf", desc := "()I" } : Jvm.MethodName) ∈ lw_g := lw_m 1209 (by decide +kernel) (by decide +kernel)
theorem k_1210 : Jvm.Cond.code ({ cls := "ConicDeskModel", name := "kindOf", desc := "()I" } : Jvm.MethodName) prog_14_method_21_code (2 : Nat) (Option.some Jvm.ClassFile.FieldType.int) ∈ lw_g := lw_m 1210 (by decide +kernel) (by decide +kernel)
theorem k_1211 : Jvm.Cond.methodLink "ConicDeskModel" (85 : Nat) ({ cls := "ConicDeskModel", name := "rankOf", desc := "()I" } : Jvm.MethodName) ∈ lw_g := lw_m 1211 (by decide +kernel) (by decide +kernel)
theorem k_1213 : Jvm.Cond.instanceMethod ({ cls := "ConicDeskModel", name := "rankOf", desc := "()I" } : Jvm.MethodName) ∈ lw_g := lw_m 1213 (by decide +kernel) (by decide +kernel)
theorem k_1214 : Jvm.Cond.code ({ cls := "ConicDeskModel", name := "rankOf", desc := "()I" } : Jvm.MethodName) prog_14_method_20_code (1 : Nat) (Option.some Jvm.ClassFile.FieldType.int) ∈ lw_g := lw_m 1214 (by decide +kernel) (by decide +kernel)
theorem k_1215 : Jvm.Cond.methodLink "ConicDeskModel" (81 : Nat) ({ cls := "ConicDeskModel", name := "rank", desc := "(II)I" } : Jvm.MethodName) ∈ lw_g := lw_m 1215 (by decide +kernel) (by decide +kernel)
theorem k_1217 : Jvm.Cond.instanceMethod ({ cls := "ConicDeskModel", name := "rank", desc := "(II)I" } : Jvm.MethodName) ∈ lw_g := lw_m 1217 (by decide +kernel) (by decide +kernel)
theorem k_1218 : Jvm.Cond.code ({ cls := "ConicDeskModel", name := "rank", desc := "(II)I" } : Jvm.MethodName) prog_14_method_19_code (10 : Nat) (Option.some Jvm.ClassFile.FieldType.int) ∈ lw_g := lw_m 1218 (by decide +kernel) (by decide +kernel)
theorem k_1219 : Jvm.Cond.methodLink "ConicDeskModel" (56 : Nat) ({ cls := "ConicDeskModel", name := "inverse", desc := "(I)I" } : Jvm.MethodName) ∈ lw_g := lw_m 1219 (by decide +kernel) (by decide +kernel)
theorem k_1221 : Jvm.Cond.instanceMethod ({ cls := "ConicDeskModel", name := "inverse", desc := "(I)I" } : Jvm.MethodName) ∈ lw_g := lw_m 1221 (by decide +kernel) (by decide +kernel)
theorem k_1222 : Jvm.Cond.code ({ cls := "ConicDeskModel", name := "inverse", desc := "(I)I" } : Jvm.MethodName) prog_14_method_7_code (3 : Nat) (Option.some Jvm.ClassFile.FieldType.int) ∈ lw_g := lw_m 1222 (by decide +kernel) (by decide +kernel)
theorem k_1223 : Jvm.Cond.methodLink "ConicDeskModel" (88 : Nat) ({ cls := "ConicDeskModel", name := "linesOn", desc := "()I" } : Jvm.MethodName) ∈ lw_g := lw_m 1223 (by decide +kernel) (by decide +kernel)
theorem k_1225 : Jvm.Cond.instanceMethod ({ cls := "ConicDeskModel", name := "linesOn", desc := "()I" } : Jvm.MethodName) ∈ lw_g := lw_m 1225 (by decide +kernel) (by decide +kernel)
theorem k_1226 : Jvm.Cond.code ({ cls := "ConicDeskModel", name := "linesOn", desc := "()I" } : Jvm.MethodName) prog_14_method_18_code (3 : Nat) (Option.some Jvm.ClassFile.FieldType.int) ∈ lw_g := lw_m 1226 (by decide +kernel) (by decide +kernel)
theorem k_1227 : Jvm.Cond.methodLink "ConicDeskModel" (66 : Nat) ({ cls := "ConicDeskModel", name := "places", desc := "()I" } : Jvm.MethodName) ∈ lw_g := lw_m 1227 (by decide +kernel) (by decide +kernel)
theorem k_1229 : Jvm.Cond.instanceMethod ({ cls := "ConicDeskModel", name := "places", desc := "()I" } : Jvm.MethodName) ∈ lw_g := lw_m 1229 (by decide +kernel) (by decide +kernel)
theorem k_1230 : Jvm.Cond.code ({ cls := "ConicDeskModel", name := "places", desc := "()I" } : Jvm.MethodName) prog_14_method_8_code (1 : Nat) (Option.some Jvm.ClassFile.FieldType.int) ∈ lw_g := lw_m 1230 (by decide +kernel) (by decide +kernel)
theorem k_1231 : Jvm.Cond.methodLink "ConicDeskModel" (78 : Nat) ({ cls := "ConicDeskModel", name := "isOfAll", desc := "(I)Z" } : Jvm.MethodName) ∈ lw_g := lw_m 1231 (by decide +kernel) (by decide +kernel)
theorem k_1233 : Jvm.Cond.instanceMethod ({ cls := "ConicDeskModel", name := "isOfAll", desc := "(I)Z" } : Jvm.MethodName) ∈ lw_g := lw_m 1233 (by decide +kernel) (by decide +kernel)
theorem k_1234 : Jvm.Cond.code ({ cls := "ConicDeskModel", name := "isOfAll", desc := "(I)Z" } : Jvm.MethodName) prog_14_method_17_code (3 : Nat) (Option.some Jvm.ClassFile.FieldType.boolean) ∈ lw_g := lw_m 1234 (by decide +kernel) (by decide +kernel)
theorem k_1235 : Jvm.Cond.methodLink "ConicDeskModel" (74 : Nat) ({ cls := "ConicDeskModel", name := "isOnLine", desc := "(II)Z" } : Jvm.MethodName) ∈ lw_g := lw_m 1235 (by decide +kernel) (by decide +kernel)
theorem k_1237 : Jvm.Cond.instanceMethod ({ cls := "ConicDeskModel", name := "isOnLine", desc := "(II)Z" } : Jvm.MethodName) ∈ lw_g := lw_m 1237 (by decide +kernel) (by decide +kernel)
theorem k_1238 : Jvm.Cond.code ({ cls := "ConicDeskModel", name := "isOnLine", desc := "(II)Z" } : Jvm.MethodName) prog_14_method_11_code (6 : Nat) (Option.some Jvm.ClassFile.FieldType.boolean) ∈ lw_g := lw_m 1238 (by decide +kernel) (by decide +kernel)
theorem k_1239 : Jvm.Cond.methodLink "ConicDeskModel" (59 : Nat) ({ cls := "ConicDeskModel", name := "laysPlace", desc := "(I)V" } : Jvm.MethodName) ∈ lw_g := lw_m 1239 (by decide +kernel) (by decide +kernel)
theorem k_1241 : Jvm.Cond.instanceMethod ({ cls := "ConicDeskModel", name := "laysPlace", desc := "(I)V" } : Jvm.MethodName) ∈ lw_g := lw_m 1241 (by decide +kernel) (by decide +kernel)
theorem k_1242 : Jvm.Cond.code ({ cls := "ConicDeskModel", name := "laysPlace", desc := "(I)V" } : Jvm.MethodName) prog_14_method_9_code (2 : Nat) (Option.none : Option Jvm.ClassFile.FieldType) ∈ lw_g := lw_m 1242 (by decide +kernel) (by decide +kernel)
theorem k_1243 : Jvm.Cond.methodLink "ConicDeskModel" (70 : Nat) ({ cls := "ConicDeskModel", name := "isOn", desc := "(I)Z" } : Jvm.MethodName) ∈ lw_g := lw_m 1243 (by decide +kernel) (by decide +kernel)
theorem k_1245 : Jvm.Cond.instanceMethod ({ cls := "ConicDeskModel", name := "isOn", desc := "(I)Z" } : Jvm.MethodName) ∈ lw_g := lw_m 1245 (by decide +kernel) (by decide +kernel)
theorem k_1246 : Jvm.Cond.code ({ cls := "ConicDeskModel", name := "isOn", desc := "(I)Z" } : Jvm.MethodName) prog_14_method_14_code (2 : Nat) (Option.some Jvm.ClassFile.FieldType.boolean) ∈ lw_g := lw_m 1246 (by decide +kernel) (by decide +kernel)
theorem k_1247 : Jvm.Cond.methodLink "ConicDeskLaw" (53 : Nat) ({ cls := "ConicDeskModel", name := "twist", desc := "(II)I" } : Jvm.MethodName) ∈ lw_g := lw_m 1247 (by decide +kernel) (by decide +kernel)
theorem k_1248 : Jvm.Cond.instanceMethod ({ cls := "ConicDeskModel", name := "twist", desc := "(II)I" } : Jvm.MethodName) ∈ lw_g := lw_m 1248 (by decide +kernel) (by decide +kernel)
theorem k_1249 : Jvm.Cond.selects "ConicDeskModel" ({ cls := "ConicDeskModel", name := "twist", desc := "(II)I" } : Jvm.MethodName) ({ cls := "ConicDeskModel", name := "twist", desc := "(II)I" } : Jvm.MethodName) ∈ lw_g := lw_m 1249 (by decide +kernel) (by decide +kernel)
theorem k_1250 : Jvm.Cond.code ({ cls := "ConicDeskModel", name := "twist", desc := "(II)I" } : Jvm.MethodName) prog_14_method_40_code (6 : Nat) (Option.some Jvm.ClassFile.FieldType.int) ∈ lw_g := lw_m 1250 (by decide +kernel) (by decide +kernel)
theorem k_1251 : Jvm.Cond.methodLink "ConicDeskLaw" (57 : Nat) ({ cls := "ConicDeskModel", name := "through", desc := "(I)I" } : Jvm.MethodName) ∈ lw_g := lw_m 1251 (by decide +kernel) (by decide +kernel)
theorem k_1252 : Jvm.Cond.instanceMethod ({ cls := "ConicDeskModel", name := "through", desc := "(I)I" } : Jvm.MethodName) ∈ lw_g := lw_m 1252 (by decide +kernel) (by decide +kernel)
theorem k_1253 : Jvm.Cond.selects "ConicDeskModel" ({ cls := "ConicDeskModel", name := "through", desc := "(I)I" } : Jvm.MethodName) ({ cls := "ConicDeskModel", name := "through", desc := "(I)I" } : Jvm.MethodName) ∈ lw_g := lw_m 1253 (by decide +kernel) (by decide +kernel)
theorem k_1254 : Jvm.Cond.code ({ cls := "ConicDeskModel", name := "through", desc := "(I)I" } : Jvm.MethodName) prog_14_method_44_code (2 : Nat) (Option.some Jvm.ClassFile.FieldType.int) ∈ lw_g := lw_m 1254 (by decide +kernel) (by decide +kernel)
theorem k_1255 : Jvm.Cond.methodLink "ConicDeskModel" (157 : Nat) ({ cls := "ConicDeskModel", name := "hasOne", desc := "()Z" } : Jvm.MethodName) ∈ lw_g := lw_m 1255 (by decide +kernel) (by decide +kernel)
theorem k_1257 : Jvm.Cond.instanceMethod ({ cls := "ConicDeskModel", name := "hasOne", desc := "()Z" } : Jvm.MethodName) ∈ lw_g := lw_m 1257 (by decide +kernel) (by decide +kernel)
theorem k_1258 : Jvm.Cond.code ({ cls := "ConicDeskModel", name := "hasOne", desc := "()Z" } : Jvm.MethodName) prog_14_method_43_code (6 : Nat) (Option.some Jvm.ClassFile.FieldType.boolean) ∈ lw_g := lw_m 1258 (by decide +kernel) (by decide +kernel)
theorem k_1259 : Jvm.Cond.methodLink "ConicDeskModel" (154 : Nat) ({ cls := "ConicDeskModel", name := "rankWith", desc := "(I)I" } : Jvm.MethodName) ∈ lw_g := lw_m 1259 (by decide +kernel) (by decide +kernel)
theorem k_1261 : Jvm.Cond.instanceMethod ({ cls := "ConicDeskModel", name := "rankWith", desc := "(I)I" } : Jvm.MethodName) ∈ lw_g := lw_m 1261 (by decide +kernel) (by decide +kernel)
theorem k_1262 : Jvm.Cond.code ({ cls := "ConicDeskModel", name := "rankWith", desc := "(I)I" } : Jvm.MethodName) prog_14_method_42_code (4 : Nat) (Option.some Jvm.ClassFile.FieldType.int) ∈ lw_g := lw_m 1262 (by decide +kernel) (by decide +kernel)
theorem k_1263 : Jvm.Cond.methodLink "ConicDeskModel" (151 : Nat) ({ cls := "ConicDeskModel", name := "laysMark", desc := "(II)V" } : Jvm.MethodName) ∈ lw_g := lw_m 1263 (by decide +kernel) (by decide +kernel)
theorem k_1265 : Jvm.Cond.instanceMethod ({ cls := "ConicDeskModel", name := "laysMark", desc := "(II)V" } : Jvm.MethodName) ∈ lw_g := lw_m 1265 (by decide +kernel) (by decide +kernel)
theorem k_1266 : Jvm.Cond.code ({ cls := "ConicDeskModel", name := "laysMark", desc := "(II)V" } : Jvm.MethodName) prog_14_method_41_code (3 : Nat) (Option.none : Option Jvm.ClassFile.FieldType) ∈ lw_g := lw_m 1266 (by decide +kernel) (by decide +kernel)
theorem k_1267 : Jvm.Cond.methodLink "ConicDeskLaw" (62 : Nat) ({ cls := "ConicDeskModel", name := "mark", desc := "(IZ)I" } : Jvm.MethodName) ∈ lw_g := lw_m 1267 (by decide +kernel) (by decide +kernel)
theorem k_1268 : Jvm.Cond.instanceMethod ({ cls := "ConicDeskModel", name := "mark", desc := "(IZ)I" } : Jvm.MethodName) ∈ lw_g := lw_m 1268 (by decide +kernel) (by decide +kernel)
theorem k_1269 : Jvm.Cond.selects "ConicDeskModel" ({ cls := "ConicDeskModel", name := "mark", desc := "(IZ)I" } : Jvm.MethodName) ({ cls := "ConicDeskModel", name := "mark", desc := "(IZ)I" } : Jvm.MethodName) ∈ lw_g := lw_m 1269 (by decide +kernel) (by decide +kernel)
theorem k_1270 : Jvm.Cond.code ({ cls := "ConicDeskModel", name := "mark", desc := "(IZ)I" } : Jvm.MethodName) prog_14_method_47_code (4 : Nat) (Option.some Jvm.ClassFile.FieldType.int) ∈ lw_g := lw_m 1270 (by decide +kernel) (by decide +kernel)
theorem k_1271 : Jvm.Cond.methodLink "ConicDeskModel" (161 : Nat) ({ cls := "ConicDeskModel", name := "isPlace", desc := "(I)Z" } : Jvm.MethodName) ∈ lw_g := lw_m 1271 (by decide +kernel) (by decide +kernel)
theorem k_1273 : Jvm.Cond.instanceMethod ({ cls := "ConicDeskModel", name := "isPlace", desc := "(I)Z" } : Jvm.MethodName) ∈ lw_g := lw_m 1273 (by decide +kernel) (by decide +kernel)
theorem k_1274 : Jvm.Cond.code ({ cls := "ConicDeskModel", name := "isPlace", desc := "(I)Z" } : Jvm.MethodName) prog_14_method_45_code (2 : Nat) (Option.some Jvm.ClassFile.FieldType.boolean) ∈ lw_g := lw_m 1274 (by decide +kernel) (by decide +kernel)
theorem k_1275 : Jvm.Cond.methodLink "ConicDeskModel" (164 : Nat) ({ cls := "ConicDeskModel", name := "markOf", desc := "(II)I" } : Jvm.MethodName) ∈ lw_g := lw_m 1275 (by decide +kernel) (by decide +kernel)
theorem k_1277 : Jvm.Cond.instanceMethod ({ cls := "ConicDeskModel", name := "markOf", desc := "(II)I" } : Jvm.MethodName) ∈ lw_g := lw_m 1277 (by decide +kernel) (by decide +kernel)
theorem k_1278 : Jvm.Cond.code ({ cls := "ConicDeskModel", name := "markOf", desc := "(II)I" } : Jvm.MethodName) prog_14_method_46_code (4 : Nat) (Option.some Jvm.ClassFile.FieldType.int) ∈ lw_g := lw_m 1278 (by decide +kernel) (by decide +kernel)
theorem k_1279 : Jvm.Cond.methodLink "ConicDeskLaw" (66 : Nat) ({ cls := "ConicDeskModel", name := "why", desc := "(I)I" } : Jvm.MethodName) ∈ lw_g := lw_m 1279 (by decide +kernel) (by decide +kernel)
theorem k_1280 : Jvm.Cond.instanceMethod ({ cls := "ConicDeskModel", name := "why", desc := "(I)I" } : Jvm.MethodName) ∈ lw_g := lw_m 1280 (by decide +kernel) (by decide +kernel)
theorem k_1281 : Jvm.Cond.selects "ConicDeskModel" ({ cls := "ConicDeskModel", name := "why", desc := "(I)I" } : Jvm.MethodName) ({ cls := "ConicDeskModel", name := "why", desc := "(I)I" } : Jvm.MethodName) ∈ lw_g := lw_m 1281 (by decide +kernel) (by decide +kernel)
theorem k_1282 : Jvm.Cond.code ({ cls := "ConicDeskModel", name := "why", desc := "(I)I" } : Jvm.MethodName) prog_14_method_48_code (2 : Nat) (Option.some Jvm.ClassFile.FieldType.int) ∈ lw_g := lw_m 1282 (by decide +kernel) (by decide +kernel)
theorem k_1283 : Jvm.Cond.methodLink "ConicDeskLaw" (70 : Nat) ({ cls := "ConicDeskModel", name := "undo", desc := "()I" } : Jvm.MethodName) ∈ lw_g := lw_m 1283 (by decide +kernel) (by decide +kernel)
theorem k_1284 : Jvm.Cond.instanceMethod ({ cls := "ConicDeskModel", name := "undo", desc := "()I" } : Jvm.MethodName) ∈ lw_g := lw_m 1284 (by decide +kernel) (by decide +kernel)
theorem k_1285 : Jvm.Cond.selects "ConicDeskModel" ({ cls := "ConicDeskModel", name := "undo", desc := "()I" } : Jvm.MethodName) ({ cls := "ConicDeskModel", name := "undo", desc := "()I" } : Jvm.MethodName) ∈ lw_g := lw_m 1285 (by decide +kernel) (by decide +kernel)
theorem k_1286 : Jvm.Cond.code ({ cls := "ConicDeskModel", name := "undo", desc := "()I" } : Jvm.MethodName) prog_14_method_49_code (1 : Nat) (Option.some Jvm.ClassFile.FieldType.int) ∈ lw_g := lw_m 1286 (by decide +kernel) (by decide +kernel)
theorem k_1287 : Jvm.Cond.methodLink "ConicDeskLaw" (74 : Nat) ({ cls := "ConicDeskModel", name := "count", desc := "(I)I" } : Jvm.MethodName) ∈ lw_g := lw_m 1287 (by decide +kernel) (by decide +kernel)
theorem k_1288 : Jvm.Cond.instanceMethod ({ cls := "ConicDeskModel", name := "count", desc := "(I)I" } : Jvm.MethodName) ∈ lw_g := lw_m 1288 (by decide +kernel) (by decide +kernel)
theorem k_1289 : Jvm.Cond.selects "ConicDeskModel" ({ cls := "ConicDeskModel", name := "count", desc := "(I)I" } : Jvm.MethodName) ({ cls := "ConicDeskModel", name := "count", desc := "(I)I" } : Jvm.MethodName) ∈ lw_g := lw_m 1289 (by decide +kernel) (by decide +kernel)
theorem k_1290 : Jvm.Cond.code ({ cls := "ConicDeskModel", name := "count", desc := "(I)I" } : Jvm.MethodName) prog_14_method_54_code (2 : Nat) (Option.some Jvm.ClassFile.FieldType.int) ∈ lw_g := lw_m 1290 (by decide +kernel) (by decide +kernel)
theorem k_1291 : Jvm.Cond.methodLink "ConicDeskModel" (176 : Nat) ({ cls := "ConicDeskModel", name := "proper", desc := "()I" } : Jvm.MethodName) ∈ lw_g := lw_m 1291 (by decide +kernel) (by decide +kernel)
theorem k_1293 : Jvm.Cond.instanceMethod ({ cls := "ConicDeskModel", name := "proper", desc := "()I" } : Jvm.MethodName) ∈ lw_g := lw_m 1293 (by decide +kernel) (by decide +kernel)
theorem k_1294 : Jvm.Cond.code ({ cls := "ConicDeskModel", name := "proper", desc := "()I" } : Jvm.MethodName) prog_14_method_50_code (3 : Nat) (Option.some Jvm.ClassFile.FieldType.int) ∈ lw_g := lw_m 1294 (by decide +kernel) (by decide +kernel)
theorem k_1295 : Jvm.Cond.methodLink "ConicDeskModel" (179 : Nat) ({ cls := "ConicDeskModel", name := "lined", desc := "()I" } : Jvm.MethodName) ∈ lw_g := lw_m 1295 (by decide +kernel) (by decide +kernel)
theorem k_1297 : Jvm.Cond.instanceMethod ({ cls := "ConicDeskModel", name := "lined", desc := "()I" } : Jvm.MethodName) ∈ lw_g := lw_m 1297 (by decide +kernel) (by decide +kernel)
theorem k_1298 : Jvm.Cond.code ({ cls := "ConicDeskModel", name := "lined", desc := "()I" } : Jvm.MethodName) prog_14_method_53_code (6 : Nat) (Option.some Jvm.ClassFile.FieldType.int) ∈ lw_g := lw_m 1298 (by decide +kernel) (by decide +kernel)
theorem k_1299 : Jvm.Cond.methodLink "ConicDeskModel" (170 : Nat) ({ cls := "ConicDeskModel", name := "areOnLine", desc := "(III)Z" } : Jvm.MethodName) ∈ lw_g := lw_m 1299 (by decide +kernel) (by decide +kernel)
theorem k_1301 : Jvm.Cond.instanceMethod ({ cls := "ConicDeskModel", name := "areOnLine", desc := "(III)Z" } : Jvm.MethodName) ∈ lw_g := lw_m 1301 (by decide +kernel) (by decide +kernel)
theorem k_1302 : Jvm.Cond.code ({ cls := "ConicDeskModel", name := "areOnLine", desc := "(III)Z" } : Jvm.MethodName) prog_14_method_51_code (4 : Nat) (Option.some Jvm.ClassFile.FieldType.boolean) ∈ lw_g := lw_m 1302 (by decide +kernel) (by decide +kernel)
theorem k_1303 : Jvm.Cond.methodLink "ConicDeskModel" (167 : Nat) ({ cls := "ConicDeskModel", name := "lineOf", desc := "(II)I" } : Jvm.MethodName) ∈ lw_g := lw_m 1303 (by decide +kernel) (by decide +kernel)
theorem k_1305 : Jvm.Cond.instanceMethod ({ cls := "ConicDeskModel", name := "lineOf", desc := "(II)I" } : Jvm.MethodName) ∈ lw_g := lw_m 1305 (by decide +kernel) (by decide +kernel)
theorem k_1306 : Jvm.Cond.code ({ cls := "ConicDeskModel", name := "lineOf", desc := "(II)I" } : Jvm.MethodName) prog_14_method_52_code (6 : Nat) (Option.some Jvm.ClassFile.FieldType.int) ∈ lw_g := lw_m 1306 (by decide +kernel) (by decide +kernel)
theorem k_1307 : Jvm.Cond.methodLink "ConicDeskModel" (62 : Nat) ({ cls := "ConicDeskModel", name := "numberOf", desc := "(III)I" } : Jvm.MethodName) ∈ lw_g := lw_m 1307 (by decide +kernel) (by decide +kernel)
theorem k_1309 : Jvm.Cond.instanceMethod ({ cls := "ConicDeskModel", name := "numberOf", desc := "(III)I" } : Jvm.MethodName) ∈ lw_g := lw_m 1309 (by decide +kernel) (by decide +kernel)
theorem k_1310 : Jvm.Cond.code ({ cls := "ConicDeskModel", name := "numberOf", desc := "(III)I" } : Jvm.MethodName) prog_14_method_10_code (7 : Nat) (Option.some Jvm.ClassFile.FieldType.int) ∈ lw_g := lw_m 1310 (by decide +kernel) (by decide +kernel)
theorem k_1311 : Jvm.Cond.methodLink "ConicDeskLaw" (78 : Nat) ({ cls := "ConicDeskModel", name := "conic", desc := "(II)I" } : Jvm.MethodName) ∈ lw_g := lw_m 1311 (by decide +kernel) (by decide +kernel)
theorem k_1312 : Jvm.Cond.instanceMethod ({ cls := "ConicDeskModel", name := "conic", desc := "(II)I" } : Jvm.MethodName) ∈ lw_g := lw_m 1312 (by decide +kernel) (by decide +kernel)
theorem k_1313 : Jvm.Cond.selects "ConicDeskModel" ({ cls := "ConicDeskModel", name := "conic", desc := "(II)I" } : Jvm.MethodName) ({ cls := "ConicDeskModel", name := "conic", desc := "(II)I" } : Jvm.MethodName) ∈ lw_g := lw_m 1313 (by decide +kernel) (by decide +kernel)
theorem k_1314 : Jvm.Cond.code ({ cls := "ConicDeskModel", name := "conic", desc := "(II)I" } : Jvm.MethodName) prog_14_method_55_code (3 : Nat) (Option.some Jvm.ClassFile.FieldType.int) ∈ lw_g := lw_m 1314 (by decide +kernel) (by decide +kernel)
theorem k_1315 : Jvm.Cond.constant "ConicDeskModel" (182 : Nat) (-2000000000 : Int32) ∈ lw_g := lw_m 1315 (by decide +kernel) (by decide +kernel)
theorem k_1316 : Jvm.Cond.methodLink "ConicDeskModel" (183 : Nat) ({ cls := "ConicDeskModel", name := "sort", desc := "(I)I" } : Jvm.MethodName) ∈ lw_g := lw_m 1316 (by decide +kernel) (by decide +kernel)
theorem k_1318 : Jvm.Cond.instanceMethod ({ cls := "ConicDeskModel", name := "sort", desc := "(I)I" } : Jvm.MethodName) ∈ lw_g := lw_m 1318 (by decide +kernel) (by decide +kernel)
theorem k_1319 : Jvm.Cond.code ({ cls := "ConicDeskModel", name := "sort", desc := "(I)I" } : Jvm.MethodName) prog_14_method_25_code (6 : Nat) (Option.some Jvm.ClassFile.FieldType.int) ∈ lw_g := lw_m 1319 (by decide +kernel) (by decide +kernel)
theorem k_1320 : Jvm.Cond.methodLink "ConicDeskModel" (100 : Nat) ({ cls := "ConicDeskModel", name := "told", desc := "(II)I" } : Jvm.MethodName) ∈ lw_g := lw_m 1320 (by decide +kernel) (by decide +kernel)
theorem k_1322 : Jvm.Cond.instanceMethod ({ cls := "ConicDeskModel", name := "told", desc := "(II)I" } : Jvm.MethodName) ∈ lw_g := lw_m 1322 (by decide +kernel) (by decide +kernel)
theorem k_1323 : Jvm.Cond.code ({ cls := "ConicDeskModel", name := "told", desc := "(II)I" } : Jvm.MethodName) prog_14_method_27_code (10 : Nat) (Option.some Jvm.ClassFile.FieldType.int) ∈ lw_g := lw_m 1323 (by decide +kernel) (by decide +kernel)
theorem k_1324 : Jvm.Cond.methodLink "ConicDeskModel" (103 : Nat) ({ cls := "ConicDeskModel", name := "turned", desc := "(II)I" } : Jvm.MethodName) ∈ lw_g := lw_m 1324 (by decide +kernel) (by decide +kernel)
theorem k_1325 : Jvm.Cond.static ({ cls := "ConicDeskModel", name := "turned", desc := "(II)I" } : Jvm.MethodName) ∈ lw_g := lw_m 1325 (by decide +kernel) (by decide +kernel)
theorem k_1326 : Jvm.Cond.code ({ cls := "ConicDeskModel", name := "turned", desc := "(II)I" } : Jvm.MethodName) prog_14_method_26_code (2 : Nat) (Option.some Jvm.ClassFile.FieldType.int) ∈ lw_g := lw_m 1326 (by decide +kernel) (by decide +kernel)
theorem k_1327 : Jvm.Cond.methodLink "ConicDeskModel" (186 : Nat) ({ cls := "ConicDeskModel", name := "pointsOn", desc := "()I" } : Jvm.MethodName) ∈ lw_g := lw_m 1327 (by decide +kernel) (by decide +kernel)
theorem k_1329 : Jvm.Cond.instanceMethod ({ cls := "ConicDeskModel", name := "pointsOn", desc := "()I" } : Jvm.MethodName) ∈ lw_g := lw_m 1329 (by decide +kernel) (by decide +kernel)
theorem k_1330 : Jvm.Cond.code ({ cls := "ConicDeskModel", name := "pointsOn", desc := "()I" } : Jvm.MethodName) prog_14_method_16_code (3 : Nat) (Option.some Jvm.ClassFile.FieldType.int) ∈ lw_g := lw_m 1330 (by decide +kernel) (by decide +kernel)
theorem k_1331 : Jvm.Cond.methodLink "ConicDeskModel" (189 : Nat) ({ cls := "ConicDeskModel", name := "sided", desc := "(I)I" } : Jvm.MethodName) ∈ lw_g := lw_m 1331 (by decide +kernel) (by decide +kernel)
theorem k_1333 : Jvm.Cond.instanceMethod ({ cls := "ConicDeskModel", name := "sided", desc := "(I)I" } : Jvm.MethodName) ∈ lw_g := lw_m 1333 (by decide +kernel) (by decide +kernel)
theorem k_1334 : Jvm.Cond.code ({ cls := "ConicDeskModel", name := "sided", desc := "(I)I" } : Jvm.MethodName) prog_14_method_24_code (4 : Nat) (Option.some Jvm.ClassFile.FieldType.int) ∈ lw_g := lw_m 1334 (by decide +kernel) (by decide +kernel)
theorem k_1335 : Jvm.Cond.methodLink "ConicDeskModel" (97 : Nat) ({ cls := "ConicDeskModel", name := "liesOf", desc := "(II)I" } : Jvm.MethodName) ∈ lw_g := lw_m 1335 (by decide +kernel) (by decide +kernel)
theorem k_1337 : Jvm.Cond.instanceMethod ({ cls := "ConicDeskModel", name := "liesOf", desc := "(II)I" } : Jvm.MethodName) ∈ lw_g := lw_m 1337 (by decide +kernel) (by decide +kernel)
theorem k_1338 : Jvm.Cond.code ({ cls := "ConicDeskModel", name := "liesOf", desc := "(II)I" } : Jvm.MethodName) prog_14_method_23_code (3 : Nat) (Option.some Jvm.ClassFile.FieldType.int) ∈ lw_g := lw_m 1338 (by decide +kernel) (by decide +kernel)
theorem k_1339 : Jvm.Cond.methodLink "ConicDeskModel" (94 : Nat) ({ cls := "ConicDeskModel", name := "tangents", desc := "(I)I" } : Jvm.MethodName) ∈ lw_g := lw_m 1339 (by decide +kernel) (by decide +kernel)
theorem k_1341 : Jvm.Cond.instanceMethod ({ cls := "ConicDeskModel", name := "tangents", desc := "(I)I" } : Jvm.MethodName) ∈ lw_g := lw_m 1341 (by decide +kernel) (by decide +kernel)
theorem k_1342 : Jvm.Cond.code ({ cls := "ConicDeskModel", name := "tangents", desc := "(I)I" } : Jvm.MethodName) prog_14_method_22_code (4 : Nat) (Option.some Jvm.ClassFile.FieldType.int) ∈ lw_g := lw_m 1342 (by decide +kernel) (by decide +kernel)
theorem k_1343 : Jvm.Cond.methodLink "ConicDeskModel" (91 : Nat) ({ cls := "ConicDeskModel", name := "polarOf", desc := "(I)I" } : Jvm.MethodName) ∈ lw_g := lw_m 1343 (by decide +kernel) (by decide +kernel)
theorem k_1345 : Jvm.Cond.instanceMethod ({ cls := "ConicDeskModel", name := "polarOf", desc := "(I)I" } : Jvm.MethodName) ∈ lw_g := lw_m 1345 (by decide +kernel) (by decide +kernel)
theorem k_1346 : Jvm.Cond.code ({ cls := "ConicDeskModel", name := "polarOf", desc := "(I)I" } : Jvm.MethodName) prog_14_method_15_code (5 : Nat) (Option.some Jvm.ClassFile.FieldType.int) ∈ lw_g := lw_m 1346 (by decide +kernel) (by decide +kernel)
theorem k_1347 : Jvm.Cond.methodLink "ConicDeskLaw" (82 : Nat) ({ cls := "ConicDeskModel", name := "place", desc := "(II)I" } : Jvm.MethodName) ∈ lw_g := lw_m 1347 (by decide +kernel) (by decide +kernel)
theorem k_1348 : Jvm.Cond.instanceMethod ({ cls := "ConicDeskModel", name := "place", desc := "(II)I" } : Jvm.MethodName) ∈ lw_g := lw_m 1348 (by decide +kernel) (by decide +kernel)
theorem k_1349 : Jvm.Cond.selects "ConicDeskModel" ({ cls := "ConicDeskModel", name := "place", desc := "(II)I" } : Jvm.MethodName) ({ cls := "ConicDeskModel", name := "place", desc := "(II)I" } : Jvm.MethodName) ∈ lw_g := lw_m 1349 (by decide +kernel) (by decide +kernel)
theorem k_1350 : Jvm.Cond.code ({ cls := "ConicDeskModel", name := "place", desc := "(II)I" } : Jvm.MethodName) prog_14_method_56_code (3 : Nat) (Option.some Jvm.ClassFile.FieldType.int) ∈ lw_g := lw_m 1350 (by decide +kernel) (by decide +kernel)
theorem k_1351 : Jvm.Cond.methodLink "ConicDeskLaw" (86 : Nat) ({ cls := "ConicDeskModel", name := "number", desc := "(III)I" } : Jvm.MethodName) ∈ lw_g := lw_m 1351 (by decide +kernel) (by decide +kernel)
theorem k_1352 : Jvm.Cond.instanceMethod ({ cls := "ConicDeskModel", name := "number", desc := "(III)I" } : Jvm.MethodName) ∈ lw_g := lw_m 1352 (by decide +kernel) (by decide +kernel)
theorem k_1353 : Jvm.Cond.selects "ConicDeskModel" ({ cls := "ConicDeskModel", name := "number", desc := "(III)I" } : Jvm.MethodName) ({ cls := "ConicDeskModel", name := "number", desc := "(III)I" } : Jvm.MethodName) ∈ lw_g := lw_m 1353 (by decide +kernel) (by decide +kernel)
theorem k_1354 : Jvm.Cond.code ({ cls := "ConicDeskModel", name := "number", desc := "(III)I" } : Jvm.MethodName) prog_14_method_57_code (4 : Nat) (Option.some Jvm.ClassFile.FieldType.int) ∈ lw_g := lw_m 1354 (by decide +kernel) (by decide +kernel)
theorem k_1355 : Jvm.Cond.methodLink "ConicDeskLaw" (90 : Nat) ({ cls := "ConicDeskModel", name := "joined", desc := "(II)I" } : Jvm.MethodName) ∈ lw_g := lw_m 1355 (by decide +kernel) (by decide +kernel)
theorem k_1356 : Jvm.Cond.instanceMethod ({ cls := "ConicDeskModel", name := "joined", desc := "(II)I" } : Jvm.MethodName) ∈ lw_g := lw_m 1356 (by decide +kernel) (by decide +kernel)
theorem k_1357 : Jvm.Cond.selects "ConicDeskModel" ({ cls := "ConicDeskModel", name := "joined", desc := "(II)I" } : Jvm.MethodName) ({ cls := "ConicDeskModel", name := "joined", desc := "(II)I" } : Jvm.MethodName) ∈ lw_g := lw_m 1357 (by decide +kernel) (by decide +kernel)
theorem k_1358 : Jvm.Cond.code ({ cls := "ConicDeskModel", name := "joined", desc := "(II)I" } : Jvm.MethodName) prog_14_method_58_code (3 : Nat) (Option.some Jvm.ClassFile.FieldType.int) ∈ lw_g := lw_m 1358 (by decide +kernel) (by decide +kernel)
theorem k_1359 : Jvm.Cond.methodLink "ConicDeskLaw" (94 : Nat) ({ cls := "ConicDeskModel", name := "marked", desc := "(I)I" } : Jvm.MethodName) ∈ lw_g := lw_m 1359 (by decide +kernel) (by decide +kernel)
theorem k_1360 : Jvm.Cond.instanceMethod ({ cls := "ConicDeskModel", name := "marked", desc := "(I)I" } : Jvm.MethodName) ∈ lw_g := lw_m 1360 (by decide +kernel) (by decide +kernel)
theorem k_1361 : Jvm.Cond.selects "ConicDeskModel" ({ cls := "ConicDeskModel", name := "marked", desc := "(I)I" } : Jvm.MethodName) ({ cls := "ConicDeskModel", name := "marked", desc := "(I)I" } : Jvm.MethodName) ∈ lw_g := lw_m 1361 (by decide +kernel) (by decide +kernel)
theorem k_1362 : Jvm.Cond.code ({ cls := "ConicDeskModel", name := "marked", desc := "(I)I" } : Jvm.MethodName) prog_14_method_59_code (2 : Nat) (Option.some Jvm.ClassFile.FieldType.int) ∈ lw_g := lw_m 1362 (by decide +kernel) (by decide +kernel)
theorem k_1363 : Jvm.Cond.methodLink "ConicDeskLaw" (98 : Nat) ({ cls := "ConicDeskModel", name := "lies", desc := "(II)I" } : Jvm.MethodName) ∈ lw_g := lw_m 1363 (by decide +kernel) (by decide +kernel)
theorem k_1364 : Jvm.Cond.instanceMethod ({ cls := "ConicDeskModel", name := "lies", desc := "(II)I" } : Jvm.MethodName) ∈ lw_g := lw_m 1364 (by decide +kernel) (by decide +kernel)
theorem k_1365 : Jvm.Cond.selects "ConicDeskModel" ({ cls := "ConicDeskModel", name := "lies", desc := "(II)I" } : Jvm.MethodName) ({ cls := "ConicDeskModel", name := "lies", desc := "(II)I" } : Jvm.MethodName) ∈ lw_g := lw_m 1365 (by decide +kernel) (by decide +kernel)
theorem k_1366 : Jvm.Cond.code ({ cls := "ConicDeskModel", name := "lies", desc := "(II)I" } : Jvm.MethodName) prog_14_method_60_code (3 : Nat) (Option.some Jvm.ClassFile.FieldType.int) ∈ lw_g := lw_m 1366 (by decide +kernel) (by decide +kernel)
theorem k_1367 : Jvm.Cond.methodLink "ConicDeskLaw" (103 : Nat) ({ cls := "ConicDeskModel", name := "on", desc := "(IIZ)I" } : Jvm.MethodName) ∈ lw_g := lw_m 1367 (by decide +kernel) (by decide +kernel)
theorem k_1368 : Jvm.Cond.instanceMethod ({ cls := "ConicDeskModel", name := "on", desc := "(IIZ)I" } : Jvm.MethodName) ∈ lw_g := lw_m 1368 (by decide +kernel) (by decide +kernel)
theorem k_1369 : Jvm.Cond.selects "ConicDeskModel" ({ cls := "ConicDeskModel", name := "on", desc := "(IIZ)I" } : Jvm.MethodName) ({ cls := "ConicDeskModel", name := "on", desc := "(IIZ)I" } : Jvm.MethodName) ∈ lw_g := lw_m 1369 (by decide +kernel) (by decide +kernel)
theorem k_1370 : Jvm.Cond.code ({ cls := "ConicDeskModel", name := "on", desc := "(IIZ)I" } : Jvm.MethodName) prog_14_method_61_code (6 : Nat) (Option.some Jvm.ClassFile.FieldType.int) ∈ lw_g := lw_m 1370 (by decide +kernel) (by decide +kernel)
theorem k_1371 : Jvm.Cond.methodLink "ConicDeskLaw" (107 : Nat) ({ cls := "ConicDeskModel", name := "polar", desc := "(II)I" } : Jvm.MethodName) ∈ lw_g := lw_m 1371 (by decide +kernel) (by decide +kernel)
theorem k_1372 : Jvm.Cond.instanceMethod ({ cls := "ConicDeskModel", name := "polar", desc := "(II)I" } : Jvm.MethodName) ∈ lw_g := lw_m 1372 (by decide +kernel) (by decide +kernel)
theorem k_1373 : Jvm.Cond.selects "ConicDeskModel" ({ cls := "ConicDeskModel", name := "polar", desc := "(II)I" } : Jvm.MethodName) ({ cls := "ConicDeskModel", name := "polar", desc := "(II)I" } : Jvm.MethodName) ∈ lw_g := lw_m 1373 (by decide +kernel) (by decide +kernel)
theorem k_1374 : Jvm.Cond.code ({ cls := "ConicDeskModel", name := "polar", desc := "(II)I" } : Jvm.MethodName) prog_14_method_62_code (3 : Nat) (Option.some Jvm.ClassFile.FieldType.int) ∈ lw_g := lw_m 1374 (by decide +kernel) (by decide +kernel)
theorem k_1375 : Jvm.Cond.methodLink "ConicDeskLaw" (111 : Nat) ({ cls := "ConicDeskModel", name := "pole", desc := "(II)I" } : Jvm.MethodName) ∈ lw_g := lw_m 1375 (by decide +kernel) (by decide +kernel)
theorem k_1376 : Jvm.Cond.instanceMethod ({ cls := "ConicDeskModel", name := "pole", desc := "(II)I" } : Jvm.MethodName) ∈ lw_g := lw_m 1376 (by decide +kernel) (by decide +kernel)
theorem k_1377 : Jvm.Cond.selects "ConicDeskModel" ({ cls := "ConicDeskModel", name := "pole", desc := "(II)I" } : Jvm.MethodName) ({ cls := "ConicDeskModel", name := "pole", desc := "(II)I" } : Jvm.MethodName) ∈ lw_g := lw_m 1377 (by decide +kernel) (by decide +kernel)
theorem k_1378 : Jvm.Cond.code ({ cls := "ConicDeskModel", name := "pole", desc := "(II)I" } : Jvm.MethodName) prog_14_method_63_code (4 : Nat) (Option.some Jvm.ClassFile.FieldType.int) ∈ lw_g := lw_m 1378 (by decide +kernel) (by decide +kernel)
theorem k_1379 : Jvm.Cond.methodLink "ConicDeskLaw" (115 : Nat) ({ cls := "ConicDeskModel", name := "meets", desc := "(II)I" } : Jvm.MethodName) ∈ lw_g := lw_m 1379 (by decide +kernel) (by decide +kernel)
theorem k_1380 : Jvm.Cond.instanceMethod ({ cls := "ConicDeskModel", name := "meets", desc := "(II)I" } : Jvm.MethodName) ∈ lw_g := lw_m 1380 (by decide +kernel) (by decide +kernel)
theorem k_1381 : Jvm.Cond.selects "ConicDeskModel" ({ cls := "ConicDeskModel", name := "meets", desc := "(II)I" } : Jvm.MethodName) ({ cls := "ConicDeskModel", name := "meets", desc := "(II)I" } : Jvm.MethodName) ∈ lw_g := lw_m 1381 (by decide +kernel) (by decide +kernel)
theorem k_1382 : Jvm.Cond.code ({ cls := "ConicDeskModel", name := "meets", desc := "(II)I" } : Jvm.MethodName) prog_14_method_64_code (5 : Nat) (Option.some Jvm.ClassFile.FieldType.int) ∈ lw_g := lw_m 1382 (by decide +kernel) (by decide +kernel)
theorem k_1383 : Jvm.Cond.methodLink "ConicDeskLaw" (119 : Nat) ({ cls := "ConicDeskModel", name := "tangent", desc := "(III)I" } : Jvm.MethodName) ∈ lw_g := lw_m 1383 (by decide +kernel) (by decide +kernel)
theorem k_1384 : Jvm.Cond.instanceMethod ({ cls := "ConicDeskModel", name := "tangent", desc := "(III)I" } : Jvm.MethodName) ∈ lw_g := lw_m 1384 (by decide +kernel) (by decide +kernel)
theorem k_1385 : Jvm.Cond.selects "ConicDeskModel" ({ cls := "ConicDeskModel", name := "tangent", desc := "(III)I" } : Jvm.MethodName) ({ cls := "ConicDeskModel", name := "tangent", desc := "(III)I" } : Jvm.MethodName) ∈ lw_g := lw_m 1385 (by decide +kernel) (by decide +kernel)
theorem k_1386 : Jvm.Cond.code ({ cls := "ConicDeskModel", name := "tangent", desc := "(III)I" } : Jvm.MethodName) prog_14_method_66_code (6 : Nat) (Option.some Jvm.ClassFile.FieldType.int) ∈ lw_g := lw_m 1386 (by decide +kernel) (by decide +kernel)
theorem k_1387 : Jvm.Cond.methodLink "ConicDeskModel" (192 : Nat) ({ cls := "ConicDeskModel", name := "isTangent", desc := "(I)Z" } : Jvm.MethodName) ∈ lw_g := lw_m 1387 (by decide +kernel) (by decide +kernel)
theorem k_1389 : Jvm.Cond.instanceMethod ({ cls := "ConicDeskModel", name := "isTangent", desc := "(I)Z" } : Jvm.MethodName) ∈ lw_g := lw_m 1389 (by decide +kernel) (by decide +kernel)
theorem k_1390 : Jvm.Cond.code ({ cls := "ConicDeskModel", name := "isTangent", desc := "(I)Z" } : Jvm.MethodName) prog_14_method_65_code (3 : Nat) (Option.some Jvm.ClassFile.FieldType.boolean) ∈ lw_g := lw_m 1390 (by decide +kernel) (by decide +kernel)
theorem k_1391 : Jvm.Cond.methodLink "ConicDeskLaw" (123 : Nat) ({ cls := "ConicDeskModel", name := "pencil", desc := "(III)I" } : Jvm.MethodName) ∈ lw_g := lw_m 1391 (by decide +kernel) (by decide +kernel)
theorem k_1392 : Jvm.Cond.instanceMethod ({ cls := "ConicDeskModel", name := "pencil", desc := "(III)I" } : Jvm.MethodName) ∈ lw_g := lw_m 1392 (by decide +kernel) (by decide +kernel)
theorem k_1393 : Jvm.Cond.selects "ConicDeskModel" ({ cls := "ConicDeskModel", name := "pencil", desc := "(III)I" } : Jvm.MethodName) ({ cls := "ConicDeskModel", name := "pencil", desc := "(III)I" } : Jvm.MethodName) ∈ lw_g := lw_m 1393 (by decide +kernel) (by decide +kernel)
theorem k_1394 : Jvm.Cond.code ({ cls := "ConicDeskModel", name := "pencil", desc := "(III)I" } : Jvm.MethodName) prog_14_method_73_code (5 : Nat) (Option.some Jvm.ClassFile.FieldType.int) ∈ lw_g := lw_m 1394 (by decide +kernel) (by decide +kernel)
theorem k_1395 : Jvm.Cond.methodLink "ConicDeskModel" (204 : Nat) ({ cls := "ConicDeskModel", name := "isPencil", desc := "(II)Z" } : Jvm.MethodName) ∈ lw_g := lw_m 1395 (by decide +kernel) (by decide +kernel)
theorem k_1397 : Jvm.Cond.instanceMethod ({ cls := "ConicDeskModel", name := "isPencil", desc := "(II)Z" } : Jvm.MethodName) ∈ lw_g := lw_m 1397 (by decide +kernel) (by decide +kernel)
theorem k_1398 : Jvm.Cond.code ({ cls := "ConicDeskModel", name := "isPencil", desc := "(II)Z" } : Jvm.MethodName) prog_14_method_67_code (6 : Nat) (Option.some Jvm.ClassFile.FieldType.boolean) ∈ lw_g := lw_m 1398 (by decide +kernel) (by decide +kernel)
theorem k_1399 : Jvm.Cond.methodLink "ConicDeskModel" (195 : Nat) ({ cls := "ConicDeskModel", name := "isVoid", desc := "()Z" } : Jvm.MethodName) ∈ lw_g := lw_m 1399 (by decide +kernel) (by decide +kernel)
theorem k_1401 : Jvm.Cond.instanceMethod ({ cls := "ConicDeskModel", name := "isVoid", desc := "()Z" } : Jvm.MethodName) ∈ lw_g := lw_m 1401 (by decide +kernel) (by decide +kernel)
theorem k_1402 : Jvm.Cond.code ({ cls := "ConicDeskModel", name := "isVoid", desc := "()Z" } : Jvm.MethodName) prog_14_method_13_code (3 : Nat) (Option.some Jvm.ClassFile.FieldType.boolean) ∈ lw_g := lw_m 1402 (by decide +kernel) (by decide +kernel)
theorem k_1403 : Jvm.Cond.methodLink "ConicDeskModel" (207 : Nat) ({ cls := "ConicDeskModel", name := "base", desc := "(III)I" } : Jvm.MethodName) ∈ lw_g := lw_m 1403 (by decide +kernel) (by decide +kernel)
theorem k_1405 : Jvm.Cond.instanceMethod ({ cls := "ConicDeskModel", name := "base", desc := "(III)I" } : Jvm.MethodName) ∈ lw_g := lw_m 1405 (by decide +kernel) (by decide +kernel)
theorem k_1406 : Jvm.Cond.code ({ cls := "ConicDeskModel", name := "base", desc := "(III)I" } : Jvm.MethodName) prog_14_method_70_code (6 : Nat) (Option.some Jvm.ClassFile.FieldType.int) ∈ lw_g := lw_m 1406 (by decide +kernel) (by decide +kernel)
theorem k_1407 : Jvm.Cond.methodLink "ConicDeskModel" (198 : Nat) ({ cls := "ConicDeskModel", name := "isBase", desc := "(III)Z" } : Jvm.MethodName) ∈ lw_g := lw_m 1407 (by decide +kernel) (by decide +kernel)
theorem k_1409 : Jvm.Cond.instanceMethod ({ cls := "ConicDeskModel", name := "isBase", desc := "(III)Z" } : Jvm.MethodName) ∈ lw_g := lw_m 1409 (by decide +kernel) (by decide +kernel)
theorem k_1410 : Jvm.Cond.code ({ cls := "ConicDeskModel", name := "isBase", desc := "(III)Z" } : Jvm.MethodName) prog_14_method_69_code (5 : Nat) (Option.some Jvm.ClassFile.FieldType.boolean) ∈ lw_g := lw_m 1410 (by decide +kernel) (by decide +kernel)
theorem k_1411 : Jvm.Cond.methodLink "ConicDeskModel" (210 : Nat) ({ cls := "ConicDeskModel", name := "fallen", desc := "(II)I" } : Jvm.MethodName) ∈ lw_g := lw_m 1411 (by decide +kernel) (by decide +kernel)
theorem k_1413 : Jvm.Cond.instanceMethod ({ cls := "ConicDeskModel", name := "fallen", desc := "(II)I" } : Jvm.MethodName) ∈ lw_g := lw_m 1413 (by decide +kernel) (by decide +kernel)
theorem k_1414 : Jvm.Cond.code ({ cls := "ConicDeskModel", name := "fallen", desc := "(II)I" } : Jvm.MethodName) prog_14_method_71_code (5 : Nat) (Option.some Jvm.ClassFile.FieldType.int) ∈ lw_g := lw_m 1414 (by decide +kernel) (by decide +kernel)
theorem k_1415 : Jvm.Cond.methodLink "ConicDeskModel" (201 : Nat) ({ cls := "ConicDeskModel", name := "laysMember", desc := "(III)V" } : Jvm.MethodName) ∈ lw_g := lw_m 1415 (by decide +kernel) (by decide +kernel)
theorem k_1417 : Jvm.Cond.instanceMethod ({ cls := "ConicDeskModel", name := "laysMember", desc := "(III)V" } : Jvm.MethodName) ∈ lw_g := lw_m 1417 (by decide +kernel) (by decide +kernel)
theorem k_1418 : Jvm.Cond.code ({ cls := "ConicDeskModel", name := "laysMember", desc := "(III)V" } : Jvm.MethodName) prog_14_method_68_code (7 : Nat) (Option.none : Option Jvm.ClassFile.FieldType) ∈ lw_g := lw_m 1418 (by decide +kernel) (by decide +kernel)
theorem k_1419 : Jvm.Cond.methodLink "ConicDeskModel" (213 : Nat) ({ cls := "ConicDeskModel", name := "touching", desc := "(II)I" } : Jvm.MethodName) ∈ lw_g := lw_m 1419 (by decide +kernel) (by decide +kernel)
theorem k_1421 : Jvm.Cond.instanceMethod ({ cls := "ConicDeskModel", name := "touching", desc := "(II)I" } : Jvm.MethodName) ∈ lw_g := lw_m 1421 (by decide +kernel) (by decide +kernel)
theorem k_1422 : Jvm.Cond.code ({ cls := "ConicDeskModel", name := "touching", desc := "(II)I" } : Jvm.MethodName) prog_14_method_72_code (7 : Nat) (Option.some Jvm.ClassFile.FieldType.int) ∈ lw_g := lw_m 1422 (by decide +kernel) (by decide +kernel)
theorem k_1423 : Jvm.Cond.methodLink "ConicDeskLaw" (128 : Nat) ({ cls := "ConicDeskModel", name := "member", desc := "(IIII)I" } : Jvm.MethodName) ∈ lw_g := lw_m 1423 (by decide +kernel) (by decide +kernel)
theorem k_1424 : Jvm.Cond.instanceMethod ({ cls := "ConicDeskModel", name := "member", desc := "(IIII)I" } : Jvm.MethodName) ∈ lw_g := lw_m 1424 (by decide +kernel) (by decide +kernel)
theorem k_1425 : Jvm.Cond.selects "ConicDeskModel" ({ cls := "ConicDeskModel", name := "member", desc := "(IIII)I" } : Jvm.MethodName) ({ cls := "ConicDeskModel", name := "member", desc := "(IIII)I" } : Jvm.MethodName) ∈ lw_g := lw_m 1425 (by decide +kernel) (by decide +kernel)
theorem k_1426 : Jvm.Cond.code ({ cls := "ConicDeskModel", name := "member", desc := "(IIII)I" } : Jvm.MethodName) prog_14_method_74_code (5 : Nat) (Option.some Jvm.ClassFile.FieldType.int) ∈ lw_g := lw_m 1426 (by decide +kernel) (by decide +kernel)
theorem k_1427 : Jvm.Cond.methodLink "ConicDeskLaw" (132 : Nat) ({ cls := "ConicDeskModel", name := "passing", desc := "(III)I" } : Jvm.MethodName) ∈ lw_g := lw_m 1427 (by decide +kernel) (by decide +kernel)
theorem k_1428 : Jvm.Cond.instanceMethod ({ cls := "ConicDeskModel", name := "passing", desc := "(III)I" } : Jvm.MethodName) ∈ lw_g := lw_m 1428 (by decide +kernel) (by decide +kernel)
theorem k_1429 : Jvm.Cond.selects "ConicDeskModel" ({ cls := "ConicDeskModel", name := "passing", desc := "(III)I" } : Jvm.MethodName) ({ cls := "ConicDeskModel", name := "passing", desc := "(III)I" } : Jvm.MethodName) ∈ lw_g := lw_m 1429 (by decide +kernel) (by decide +kernel)
theorem k_1430 : Jvm.Cond.code ({ cls := "ConicDeskModel", name := "passing", desc := "(III)I" } : Jvm.MethodName) prog_14_method_75_code (5 : Nat) (Option.some Jvm.ClassFile.FieldType.int) ∈ lw_g := lw_m 1430 (by decide +kernel) (by decide +kernel)
theorem k_1431 : Jvm.Cond.methodLink "ConicDeskLaw" (136 : Nat) ({ cls := "ConicDeskModel", name := "only", desc := "(I)I" } : Jvm.MethodName) ∈ lw_g := lw_m 1431 (by decide +kernel) (by decide +kernel)
theorem k_1432 : Jvm.Cond.instanceMethod ({ cls := "ConicDeskModel", name := "only", desc := "(I)I" } : Jvm.MethodName) ∈ lw_g := lw_m 1432 (by decide +kernel) (by decide +kernel)
theorem k_1433 : Jvm.Cond.selects "ConicDeskModel" ({ cls := "ConicDeskModel", name := "only", desc := "(I)I" } : Jvm.MethodName) ({ cls := "ConicDeskModel", name := "only", desc := "(I)I" } : Jvm.MethodName) ∈ lw_g := lw_m 1433 (by decide +kernel) (by decide +kernel)
theorem k_1434 : Jvm.Cond.code ({ cls := "ConicDeskModel", name := "only", desc := "(I)I" } : Jvm.MethodName) prog_14_method_76_code (2 : Nat) (Option.some Jvm.ClassFile.FieldType.int) ∈ lw_g := lw_m 1434 (by decide +kernel) (by decide +kernel)
theorem k_1435 : Jvm.Cond.methodLink "ConicDeskLaw" (140 : Nat) ({ cls := "ConicDeskModel", name := "freed", desc := "(I)I" } : Jvm.MethodName) ∈ lw_g := lw_m 1435 (by decide +kernel) (by decide +kernel)
theorem k_1436 : Jvm.Cond.instanceMethod ({ cls := "ConicDeskModel", name := "freed", desc := "(I)I" } : Jvm.MethodName) ∈ lw_g := lw_m 1436 (by decide +kernel) (by decide +kernel)
theorem k_1437 : Jvm.Cond.selects "ConicDeskModel" ({ cls := "ConicDeskModel", name := "freed", desc := "(I)I" } : Jvm.MethodName) ({ cls := "ConicDeskModel", name := "freed", desc := "(I)I" } : Jvm.MethodName) ∈ lw_g := lw_m 1437 (by decide +kernel) (by decide +kernel)
theorem k_1438 : Jvm.Cond.code ({ cls := "ConicDeskModel", name := "freed", desc := "(I)I" } : Jvm.MethodName) prog_14_method_77_code (2 : Nat) (Option.some Jvm.ClassFile.FieldType.int) ∈ lw_g := lw_m 1438 (by decide +kernel) (by decide +kernel)
theorem k_1439 : Jvm.Cond.methodLink "ConicDeskLaw" (144 : Nat) ({ cls := "ConicDeskModel", name := "useful", desc := "()I" } : Jvm.MethodName) ∈ lw_g := lw_m 1439 (by decide +kernel) (by decide +kernel)
theorem k_1440 : Jvm.Cond.instanceMethod ({ cls := "ConicDeskModel", name := "useful", desc := "()I" } : Jvm.MethodName) ∈ lw_g := lw_m 1440 (by decide +kernel) (by decide +kernel)
theorem k_1441 : Jvm.Cond.selects "ConicDeskModel" ({ cls := "ConicDeskModel", name := "useful", desc := "()I" } : Jvm.MethodName) ({ cls := "ConicDeskModel", name := "useful", desc := "()I" } : Jvm.MethodName) ∈ lw_g := lw_m 1441 (by decide +kernel) (by decide +kernel)
theorem k_1442 : Jvm.Cond.code ({ cls := "ConicDeskModel", name := "useful", desc := "()I" } : Jvm.MethodName) prog_14_method_78_code (4 : Nat) (Option.some Jvm.ClassFile.FieldType.int) ∈ lw_g := lw_m 1442 (by decide +kernel) (by decide +kernel)
theorem k_1443 : Jvm.Cond.methodLink "ConicDeskLaw" (17 : Nat) ({ cls := "ConicDeskModel", name := "feed", desc := "(IIIII)I" } : Jvm.MethodName) ∈ lw_g := lw_m 1443 (by decide +kernel) (by decide +kernel)
theorem k_1444 : Jvm.Cond.instanceMethod ({ cls := "ConicDeskModel", name := "feed", desc := "(IIIII)I" } : Jvm.MethodName) ∈ lw_g := lw_m 1444 (by decide +kernel) (by decide +kernel)
theorem k_1445 : Jvm.Cond.selects "ConicDeskModel" ({ cls := "ConicDeskModel", name := "feed", desc := "(IIIII)I" } : Jvm.MethodName) ({ cls := "ConicDeskModel", name := "feed", desc := "(IIIII)I" } : Jvm.MethodName) ∈ lw_g := lw_m 1445 (by decide +kernel) (by decide +kernel)
theorem k_1446 : Jvm.Cond.code ({ cls := "ConicDeskModel", name := "feed", desc := "(IIIII)I" } : Jvm.MethodName) prog_14_method_79_code (8 : Nat) (Option.some Jvm.ClassFile.FieldType.int) ∈ lw_g := lw_m 1446 (by decide +kernel) (by decide +kernel)
theorem k_1447 : Jvm.Cond.methodLink "ConicDeskLaw" (22 : Nat) ({ cls := "ConicDeskModel", name := "end", desc := "(I)I" } : Jvm.MethodName) ∈ lw_g := lw_m 1447 (by decide +kernel) (by decide +kernel)
theorem k_1448 : Jvm.Cond.instanceMethod ({ cls := "ConicDeskModel", name := "end", desc := "(I)I" } : Jvm.MethodName) ∈ lw_g := lw_m 1448 (by decide +kernel) (by decide +kernel)
theorem k_1449 : Jvm.Cond.selects "ConicDeskModel" ({ cls := "ConicDeskModel", name := "end", desc := "(I)I" } : Jvm.MethodName) ({ cls := "ConicDeskModel", name := "end", desc := "(I)I" } : Jvm.MethodName) ∈ lw_g := lw_m 1449 (by decide +kernel) (by decide +kernel)
theorem k_1450 : Jvm.Cond.code ({ cls := "ConicDeskModel", name := "end", desc := "(I)I" } : Jvm.MethodName) prog_14_method_80_code (2 : Nat) (Option.some Jvm.ClassFile.FieldType.int) ∈ lw_g := lw_m 1450 (by decide +kernel) (by decide +kernel)
theorem k_1451 : Jvm.Cond.methodLink "ConicDeskLaw" (31 : Nat) ({ cls := "ConicDeskModel", name := "fault", desc := "(I)I" } : Jvm.MethodName) ∈ lw_g := lw_m 1451 (by decide +kernel) (by decide +kernel)
theorem k_1452 : Jvm.Cond.instanceMethod ({ cls := "ConicDeskModel", name := "fault", desc := "(I)I" } : Jvm.MethodName) ∈ lw_g := lw_m 1452 (by decide +kernel) (by decide +kernel)
theorem k_1453 : Jvm.Cond.selects "ConicDeskModel" ({ cls := "ConicDeskModel", name := "fault", desc := "(I)I" } : Jvm.MethodName) ({ cls := "ConicDeskModel", name := "fault", desc := "(I)I" } : Jvm.MethodName) ∈ lw_g := lw_m 1453 (by decide +kernel) (by decide +kernel)
theorem k_1454 : Jvm.Cond.code ({ cls := "ConicDeskModel", name := "fault", desc := "(I)I" } : Jvm.MethodName) prog_14_method_81_code (2 : Nat) (Option.some Jvm.ClassFile.FieldType.int) ∈ lw_g := lw_m 1454 (by decide +kernel) (by decide +kernel)
theorem k_1455 : Jvm.Cond.methodLink "ConicDeskLaw" (27 : Nat) ({ cls := "ConicDeskModel", name := "text", desc := "()I" } : Jvm.MethodName) ∈ lw_g := lw_m 1455 (by decide +kernel) (by decide +kernel)
theorem k_1456 : Jvm.Cond.instanceMethod ({ cls := "ConicDeskModel", name := "text", desc := "()I" } : Jvm.MethodName) ∈ lw_g := lw_m 1456 (by decide +kernel) (by decide +kernel)
theorem k_1457 : Jvm.Cond.selects "ConicDeskModel" ({ cls := "ConicDeskModel", name := "text", desc := "()I" } : Jvm.MethodName) ({ cls := "ConicDeskModel", name := "text", desc := "()I" } : Jvm.MethodName) ∈ lw_g := lw_m 1457 (by decide +kernel) (by decide +kernel)
theorem k_1458 : Jvm.Cond.code ({ cls := "ConicDeskModel", name := "text", desc := "()I" } : Jvm.MethodName) prog_14_method_97_code (2 : Nat) (Option.some Jvm.ClassFile.FieldType.int) ∈ lw_g := lw_m 1458 (by decide +kernel) (by decide +kernel)
theorem k_1459 : Jvm.Cond.methodLink "ConicDeskModel" (257 : Nat) ({ cls := "ConicDeskModel", name := "takes", desc := "()V" } : Jvm.MethodName) ∈ lw_g := lw_m 1459 (by decide +kernel) (by decide +kernel)
theorem k_1461 : Jvm.Cond.instanceMethod ({ cls := "ConicDeskModel", name := "takes", desc := "()V" } : Jvm.MethodName) ∈ lw_g := lw_m 1461 (by decide +kernel) (by decide +kernel)
theorem k_1462 : Jvm.Cond.code ({ cls := "ConicDeskModel", name := "takes", desc := "()V" } : Jvm.MethodName) prog_14_method_85_code (2 : Nat) (Option.none : Option Jvm.ClassFile.FieldType) ∈ lw_g := lw_m 1462 (by decide +kernel) (by decide +kernel)
theorem k_1463 : Jvm.Cond.methodLink "ConicDeskModel" (225 : Nat) ({ cls := "ConicDeskModel", name := "byteAt", desc := "(I)I" } : Jvm.MethodName) ∈ lw_g := lw_m 1463 (by decide +kernel) (by decide +kernel)
theorem k_1465 : Jvm.Cond.instanceMethod ({ cls := "ConicDeskModel", name := "byteAt", desc := "(I)I" } : Jvm.MethodName) ∈ lw_g := lw_m 1465 (by decide +kernel) (by decide +kernel)
theorem k_1466 : Jvm.Cond.code ({ cls := "ConicDeskModel", name := "byteAt", desc := "(I)I" } : Jvm.MethodName) prog_14_method_82_code (2 : Nat) (Option.some Jvm.ClassFile.FieldType.int) ∈ lw_g := lw_m 1466 (by decide +kernel) (by decide +kernel)
theorem k_1467 : Jvm.Cond.methodLink "ConicDeskModel" (238 : Nat) ({ cls := "ConicDeskModel", name := "isLetter", desc := "(I)Z" } : Jvm.MethodName) ∈ lw_g := lw_m 1467 (by decide +kernel) (by decide +kernel)
theorem k_1468 : Jvm.Cond.static ({ cls := "ConicDeskModel", name := "isLetter", desc := "(I)Z" } : Jvm.MethodName) ∈ lw_g := lw_m 1468 (by decide +kernel) (by decide +kernel)
theorem k_1469 : Jvm.Cond.code ({ cls := "ConicDeskModel", name := "isLetter", desc := "(I)Z" } : Jvm.MethodName) prog_14_method_83_code (1 : Nat) (Option.some Jvm.ClassFile.FieldType.boolean) ∈ lw_g := lw_m 1469 (by decide +kernel) (by decide +kernel)
theorem k_1470 : Jvm.Cond.constantLong "ConicDeskModel" (241 : Nat) (27 : Int64) ∈ lw_g := lw_m 1470 (by decide +kernel) (by decide +kernel)
theorem k_1471 : Jvm.Cond.constantLong "ConicDeskModel" (243 : Nat) (97 : Int64) ∈ lw_g := lw_m 1471 (by decide +kernel) (by decide +kernel)
theorem k_1472 : Jvm.Cond.constantLong "ConicDeskModel" (245 : Nat) (-1 : Int64) ∈ lw_g := lw_m 1472 (by decide +kernel) (by decide +kernel)
theorem k_1473 : Jvm.Cond.methodLink "ConicDeskModel" (247 : Nat) ({ cls := "ConicDeskModel", name := "isDigit", desc := "(I)Z" } : Jvm.MethodName) ∈ lw_g := lw_m 1473 (by decide +kernel) (by decide +kernel)
theorem k_1474 : Jvm.Cond.static ({ cls := "ConicDeskModel", name := "isDigit", desc := "(I)Z" } : Jvm.MethodName) ∈ lw_g := lw_m 1474 (by decide +kernel) (by decide +kernel)
theorem k_1475 : Jvm.Cond.code ({ cls := "ConicDeskModel", name := "isDigit", desc := "(I)Z" } : Jvm.MethodName) prog_14_method_84_code (1 : Nat) (Option.some Jvm.ClassFile.FieldType.boolean) ∈ lw_g := lw_m 1475 (by decide +kernel) (by decide +kernel)
theorem k_1476 : Jvm.Cond.constantLong "ConicDeskModel" (250 : Nat) (10 : Int64) ∈ lw_g := lw_m 1476 (by decide +kernel) (by decide +kernel)
theorem k_1477 : Jvm.Cond.constantLong "ConicDeskModel" (252 : Nat) (48 : Int64) ∈ lw_g := lw_m 1477 (by decide +kernel) (by decide +kernel)
theorem k_1478 : Jvm.Cond.methodLink "ConicDeskModel" (254 : Nat) ({ cls := "ConicDeskModel", name := "isGood", desc := "()Z" } : Jvm.MethodName) ∈ lw_g := lw_m 1478 (by decide +kernel) (by decide +kernel)
theorem k_1480 : Jvm.Cond.instanceMethod ({ cls := "ConicDeskModel", name := "isGood", desc := "()Z" } : Jvm.MethodName) ∈ lw_g := lw_m 1480 (by decide +kernel) (by decide +kernel)
theorem k_1481 : Jvm.Cond.code ({ cls := "ConicDeskModel", name := "isGood", desc := "()Z" } : Jvm.MethodName) prog_14_method_87_code (1 : Nat) (Option.some Jvm.ClassFile.FieldType.boolean) ∈ lw_g := lw_m 1481 (by decide +kernel) (by decide +kernel)
theorem k_1482 : Jvm.Cond.methodLink "ConicDeskModel" (297 : Nat) ({ cls := "ConicDeskModel", name := "readsLine", desc := "()V" } : Jvm.MethodName) ∈ lw_g := lw_m 1482 (by decide +kernel) (by decide +kernel)
theorem k_1484 : Jvm.Cond.instanceMethod ({ cls := "ConicDeskModel", name := "readsLine", desc := "()V" } : Jvm.MethodName) ∈ lw_g := lw_m 1484 (by decide +kernel) (by decide +kernel)
theorem k_1485 : Jvm.Cond.code ({ cls := "ConicDeskModel", name := "readsLine", desc := "()V" } : Jvm.MethodName) prog_14_method_96_code (2 : Nat) (Option.none : Option Jvm.ClassFile.FieldType) ∈ lw_g := lw_m 1485 (by decide +kernel) (by decide +kernel)
theorem k_1486 : Jvm.Cond.constantLong "ConicDeskModel" (275 : Nat) (8864267 : Int64) ∈ lw_g := lw_m 1486 (by decide +kernel) (by decide +kernel)
theorem k_1487 : Jvm.Cond.methodLink "ConicDeskModel" (277 : Nat) ({ cls := "ConicDeskModel", name := "hasWord", desc := "(J)Z" } : Jvm.MethodName) ∈ lw_g := lw_m 1487 (by decide +kernel) (by decide +kernel)
theorem k_1489 : Jvm.Cond.instanceMethod ({ cls := "ConicDeskModel", name := "hasWord", desc := "(J)Z" } : Jvm.MethodName) ∈ lw_g := lw_m 1489 (by decide +kernel) (by decide +kernel)
theorem k_1490 : Jvm.Cond.code ({ cls := "ConicDeskModel", name := "hasWord", desc := "(J)Z" } : Jvm.MethodName) prog_14_method_88_code (4 : Nat) (Option.some Jvm.ClassFile.FieldType.boolean) ∈ lw_g := lw_m 1490 (by decide +kernel) (by decide +kernel)
theorem k_1491 : Jvm.Cond.methodLink "ConicDeskModel" (281 : Nat) ({ cls := "ConicDeskModel", name := "readsPrime", desc := "()V" } : Jvm.MethodName) ∈ lw_g := lw_m 1491 (by decide +kernel) (by decide +kernel)
theorem k_1493 : Jvm.Cond.instanceMethod ({ cls := "ConicDeskModel", name := "readsPrime", desc := "()V" } : Jvm.MethodName) ∈ lw_g := lw_m 1493 (by decide +kernel) (by decide +kernel)
theorem k_1494 : Jvm.Cond.code ({ cls := "ConicDeskModel", name := "readsPrime", desc := "()V" } : Jvm.MethodName) prog_14_method_93_code (2 : Nat) (Option.none : Option Jvm.ClassFile.FieldType) ∈ lw_g := lw_m 1494 (by decide +kernel) (by decide +kernel)
theorem k_1495 : Jvm.Cond.methodLink "ConicDeskModel" (260 : Nat) ({ cls := "ConicDeskModel", name := "fails", desc := "(II)V" } : Jvm.MethodName) ∈ lw_g := lw_m 1495 (by decide +kernel) (by decide +kernel)
theorem k_1497 : Jvm.Cond.instanceMethod ({ cls := "ConicDeskModel", name := "fails", desc := "(II)V" } : Jvm.MethodName) ∈ lw_g := lw_m 1497 (by decide +kernel) (by decide +kernel)
theorem k_1498 : Jvm.Cond.code ({ cls := "ConicDeskModel", name := "fails", desc := "(II)V" } : Jvm.MethodName) prog_14_method_86_code (3 : Nat) (Option.none : Option Jvm.ClassFile.FieldType) ∈ lw_g := lw_m 1498 (by decide +kernel) (by decide +kernel)
theorem k_1499 : Jvm.Cond.methodLink "ConicDeskModel" (266 : Nat) ({ cls := "ConicDeskModel", name := "numeral", desc := "(I)I" } : Jvm.MethodName) ∈ lw_g := lw_m 1499 (by decide +kernel) (by decide +kernel)
theorem k_1501 : Jvm.Cond.instanceMethod ({ cls := "ConicDeskModel", name := "numeral", desc := "(I)I" } : Jvm.MethodName) ∈ lw_g := lw_m 1501 (by decide +kernel) (by decide +kernel)
theorem k_1502 : Jvm.Cond.code ({ cls := "ConicDeskModel", name := "numeral", desc := "(I)I" } : Jvm.MethodName) prog_14_method_90_code (3 : Nat) (Option.some Jvm.ClassFile.FieldType.int) ∈ lw_g := lw_m 1502 (by decide +kernel) (by decide +kernel)
theorem k_1503 : Jvm.Cond.methodLink "ConicDeskModel" (269 : Nat) ({ cls := "ConicDeskModel", name := "ends", desc := "()V" } : Jvm.MethodName) ∈ lw_g := lw_m 1503 (by decide +kernel) (by decide +kernel)
theorem k_1505 : Jvm.Cond.instanceMethod ({ cls := "ConicDeskModel", name := "ends", desc := "()V" } : Jvm.MethodName) ∈ lw_g := lw_m 1505 (by decide +kernel) (by decide +kernel)
theorem k_1506 : Jvm.Cond.code ({ cls := "ConicDeskModel", name := "ends", desc := "()V" } : Jvm.MethodName) prog_14_method_92_code (1 : Nat) (Option.none : Option Jvm.ClassFile.FieldType) ∈ lw_g := lw_m 1506 (by decide +kernel) (by decide +kernel)
theorem k_1507 : Jvm.Cond.methodLink "ConicDeskModel" (263 : Nat) ({ cls := "ConicDeskModel", name := "hasSign", desc := "(I)Z" } : Jvm.MethodName) ∈ lw_g := lw_m 1507 (by decide +kernel) (by decide +kernel)
theorem k_1509 : Jvm.Cond.instanceMethod ({ cls := "ConicDeskModel", name := "hasSign", desc := "(I)Z" } : Jvm.MethodName) ∈ lw_g := lw_m 1509 (by decide +kernel) (by decide +kernel)
theorem k_1510 : Jvm.Cond.code ({ cls := "ConicDeskModel", name := "hasSign", desc := "(I)Z" } : Jvm.MethodName) prog_14_method_89_code (3 : Nat) (Option.some Jvm.ClassFile.FieldType.boolean) ∈ lw_g := lw_m 1510 (by decide +kernel) (by decide +kernel)
theorem k_1511 : Jvm.Cond.constantLong "ConicDeskModel" (284 : Nat) (8805260 : Int64) ∈ lw_g := lw_m 1511 (by decide +kernel) (by decide +kernel)
theorem k_1512 : Jvm.Cond.methodLink "ConicDeskModel" (286 : Nat) ({ cls := "ConicDeskModel", name := "readsPoint", desc := "(I)V" } : Jvm.MethodName) ∈ lw_g := lw_m 1512 (by decide +kernel) (by decide +kernel)
theorem k_1514 : Jvm.Cond.instanceMethod ({ cls := "ConicDeskModel", name := "readsPoint", desc := "(I)V" } : Jvm.MethodName) ∈ lw_g := lw_m 1514 (by decide +kernel) (by decide +kernel)
theorem k_1515 : Jvm.Cond.code ({ cls := "ConicDeskModel", name := "readsPoint", desc := "(I)V" } : Jvm.MethodName) prog_14_method_94_code (3 : Nat) (Option.none : Option Jvm.ClassFile.FieldType) ∈ lw_g := lw_m 1515 (by decide +kernel) (by decide +kernel)
theorem k_1516 : Jvm.Cond.constantLong "ConicDeskModel" (289 : Nat) (1900020 : Int64) ∈ lw_g := lw_m 1516 (by decide +kernel) (by decide +kernel)
theorem k_1517 : Jvm.Cond.methodLink "ConicDeskModel" (291 : Nat) ({ cls := "ConicDeskModel", name := "readsConic", desc := "(IZ)V" } : Jvm.MethodName) ∈ lw_g := lw_m 1517 (by decide +kernel) (by decide +kernel)
theorem k_1519 : Jvm.Cond.instanceMethod ({ cls := "ConicDeskModel", name := "readsConic", desc := "(IZ)V" } : Jvm.MethodName) ∈ lw_g := lw_m 1519 (by decide +kernel) (by decide +kernel)
theorem k_1520 : Jvm.Cond.code ({ cls := "ConicDeskModel", name := "readsConic", desc := "(IZ)V" } : Jvm.MethodName) prog_14_method_95_code (5 : Nat) (Option.none : Option Jvm.ClassFile.FieldType) ∈ lw_g := lw_m 1520 (by decide +kernel) (by decide +kernel)
theorem k_1521 : Jvm.Cond.methodLink "ConicDeskModel" (272 : Nat) ({ cls := "ConicDeskModel", name := "signed", desc := "()I" } : Jvm.MethodName) ∈ lw_g := lw_m 1521 (by decide +kernel) (by decide +kernel)
theorem k_1523 : Jvm.Cond.instanceMethod ({ cls := "ConicDeskModel", name := "signed", desc := "()I" } : Jvm.MethodName) ∈ lw_g := lw_m 1523 (by decide +kernel) (by decide +kernel)
theorem k_1524 : Jvm.Cond.code ({ cls := "ConicDeskModel", name := "signed", desc := "()I" } : Jvm.MethodName) prog_14_method_91_code (3 : Nat) (Option.some Jvm.ClassFile.FieldType.int) ∈ lw_g := lw_m 1524 (by decide +kernel) (by decide +kernel)
theorem k_1525 : Jvm.Cond.constantLong "ConicDeskModel" (295 : Nat) (315918 : Int64) ∈ lw_g := lw_m 1525 (by decide +kernel) (by decide +kernel)
theorem k_1526 : Jvm.Cond.methodLink "ConicDeskLaw" (149 : Nat) ({ cls := "ConicDeskModel", name := "image", desc := "(I)Z" } : Jvm.MethodName) ∈ lw_g := lw_m 1526 (by decide +kernel) (by decide +kernel)
theorem k_1527 : Jvm.Cond.instanceMethod ({ cls := "ConicDeskModel", name := "image", desc := "(I)Z" } : Jvm.MethodName) ∈ lw_g := lw_m 1527 (by decide +kernel) (by decide +kernel)
theorem k_1528 : Jvm.Cond.selects "ConicDeskModel" ({ cls := "ConicDeskModel", name := "image", desc := "(I)Z" } : Jvm.MethodName) ({ cls := "ConicDeskModel", name := "image", desc := "(I)Z" } : Jvm.MethodName) ∈ lw_g := lw_m 1528 (by decide +kernel) (by decide +kernel)
theorem k_1529 : Jvm.Cond.code ({ cls := "ConicDeskModel", name := "image", desc := "(I)Z" } : Jvm.MethodName) prog_14_method_98_code (4 : Nat) (Option.some Jvm.ClassFile.FieldType.boolean) ∈ lw_g := lw_m 1529 (by decide +kernel) (by decide +kernel)
theorem k_1530 : Jvm.Cond.methodLink "ConicDeskLaw" (153 : Nat) ({ cls := "ConicDeskModel", name := "again", desc := "(I)Z" } : Jvm.MethodName) ∈ lw_g := lw_m 1530 (by decide +kernel) (by decide +kernel)
theorem k_1531 : Jvm.Cond.instanceMethod ({ cls := "ConicDeskModel", name := "again", desc := "(I)Z" } : Jvm.MethodName) ∈ lw_g := lw_m 1531 (by decide +kernel) (by decide +kernel)
theorem k_1532 : Jvm.Cond.selects "ConicDeskModel" ({ cls := "ConicDeskModel", name := "again", desc := "(I)Z" } : Jvm.MethodName) ({ cls := "ConicDeskModel", name := "again", desc := "(I)Z" } : Jvm.MethodName) ∈ lw_g := lw_m 1532 (by decide +kernel) (by decide +kernel)
theorem k_1533 : Jvm.Cond.code ({ cls := "ConicDeskModel", name := "again", desc := "(I)Z" } : Jvm.MethodName) prog_14_method_99_code (4 : Nat) (Option.some Jvm.ClassFile.FieldType.boolean) ∈ lw_g := lw_m 1533 (by decide +kernel) (by decide +kernel)
theorem k_1534 : Jvm.Cond.fieldLink "java/lang/String" (9 : Nat) "java/lang/String" "value" "[B" ∈ lw_g := lw_m 1534 (by decide +kernel) (by decide +kernel)
theorem k_1535 : Jvm.Cond.fieldLink "java/lang/String" (15 : Nat) "java/lang/String" "coder" "B" ∈ lw_g := lw_m 1535 (by decide +kernel) (by decide +kernel)
theorem ib_10 : (Int8.ofInt (10)).toInt32 = (10 : Int32) := by decide
theorem ib_100 : (Int8.ofInt (100)).toInt32 = (100 : Int32) := by decide
theorem ib_11 : (Int8.ofInt (11)).toInt32 = (11 : Int32) := by decide
theorem ib_12 : (Int8.ofInt (12)).toInt32 = (12 : Int32) := by decide
theorem ib_122 : (Int8.ofInt (122)).toInt32 = (122 : Int32) := by decide
theorem ib_13 : (Int8.ofInt (13)).toInt32 = (13 : Int32) := by decide
theorem ib_14 : (Int8.ofInt (14)).toInt32 = (14 : Int32) := by decide
theorem ib_15 : (Int8.ofInt (15)).toInt32 = (15 : Int32) := by decide
theorem ib_16 : (Int8.ofInt (16)).toInt32 = (16 : Int32) := by decide
theorem ib_17 : (Int8.ofInt (17)).toInt32 = (17 : Int32) := by decide
theorem ib_19 : (Int8.ofInt (19)).toInt32 = (19 : Int32) := by decide
theorem ib_20 : (Int8.ofInt (20)).toInt32 = (20 : Int32) := by decide
theorem ib_23 : (Int8.ofInt (23)).toInt32 = (23 : Int32) := by decide
theorem ib_24 : (Int8.ofInt (24)).toInt32 = (24 : Int32) := by decide
theorem ib_25 : (Int8.ofInt (25)).toInt32 = (25 : Int32) := by decide
theorem ib_32 : (Int8.ofInt (32)).toInt32 = (32 : Int32) := by decide
theorem ib_36 : (Int8.ofInt (36)).toInt32 = (36 : Int32) := by decide
theorem ib_37 : (Int8.ofInt (37)).toInt32 = (37 : Int32) := by decide
theorem ib_38 : (Int8.ofInt (38)).toInt32 = (38 : Int32) := by decide
theorem ib_45 : (Int8.ofInt (45)).toInt32 = (45 : Int32) := by decide
theorem ib_46 : (Int8.ofInt (46)).toInt32 = (46 : Int32) := by decide
theorem ib_47 : (Int8.ofInt (47)).toInt32 = (47 : Int32) := by decide
theorem ib_48 : (Int8.ofInt (48)).toInt32 = (48 : Int32) := by decide
theorem ib_57 : (Int8.ofInt (57)).toInt32 = (57 : Int32) := by decide
theorem ib_59 : (Int8.ofInt (59)).toInt32 = (59 : Int32) := by decide
theorem ib_6 : (Int8.ofInt (6)).toInt32 = (6 : Int32) := by decide
theorem ib_63 : (Int8.ofInt (63)).toInt32 = (63 : Int32) := by decide
theorem ib_7 : (Int8.ofInt (7)).toInt32 = (7 : Int32) := by decide
theorem ib_8 : (Int8.ofInt (8)).toInt32 = (8 : Int32) := by decide
theorem ib_84 : (Int8.ofInt (84)).toInt32 = (84 : Int32) := by decide
theorem ib_85 : (Int8.ofInt (85)).toInt32 = (85 : Int32) := by decide
theorem ib_86 : (Int8.ofInt (86)).toInt32 = (86 : Int32) := by decide
theorem ib_9 : (Int8.ofInt (9)).toInt32 = (9 : Int32) := by decide
theorem ib_94 : (Int8.ofInt (94)).toInt32 = (94 : Int32) := by decide
theorem ib_97 : (Int8.ofInt (97)).toInt32 = (97 : Int32) := by decide
theorem ib_99 : (Int8.ofInt (99)).toInt32 = (99 : Int32) := by decide
theorem ib_m99 : (Int8.ofInt (-99)).toInt32 = (-99 : Int32) := by decide
theorem ic_0 : Int32.ofInt (0) = (0 : Int32) := by decide
theorem ic_1 : Int32.ofInt (1) = (1 : Int32) := by decide
theorem ic_2 : Int32.ofInt (2) = (2 : Int32) := by decide
theorem ic_3 : Int32.ofInt (3) = (3 : Int32) := by decide
theorem ic_4 : Int32.ofInt (4) = (4 : Int32) := by decide
theorem ic_5 : Int32.ofInt (5) = (5 : Int32) := by decide
theorem ic_6 : Int32.ofInt (6) = (6 : Int32) := by decide
theorem ic_m1 : Int32.ofInt (-1) = (-1 : Int32) := by decide
theorem ic_m8 : Int32.ofInt (-8) = (-8 : Int32) := by decide
theorem is_1000 : (Int16.ofInt (1000)).toInt32 = (1000 : Int32) := by decide
theorem is_140 : (Int16.ofInt (140)).toInt32 = (140 : Int32) := by decide
theorem is_2000 : (Int16.ofInt (2000)).toInt32 = (2000 : Int32) := by decide
theorem is_2115 : (Int16.ofInt (2115)).toInt32 = (2115 : Int32) := by decide
theorem is_255 : (Int16.ofInt (255)).toInt32 = (255 : Int32) := by decide
theorem is_3000 : (Int16.ofInt (3000)).toInt32 = (3000 : Int32) := by decide
theorem is_322 : (Int16.ofInt (322)).toInt32 = (322 : Int32) := by decide
theorem is_3999 : (Int16.ofInt (3999)).toInt32 = (3999 : Int32) := by decide
theorem is_462 : (Int16.ofInt (462)).toInt32 = (462 : Int32) := by decide
theorem is_480 : (Int16.ofInt (480)).toInt32 = (480 : Int32) := by decide
theorem is_500 : (Int16.ofInt (500)).toInt32 = (500 : Int32) := by decide
theorem is_551 : (Int16.ofInt (551)).toInt32 = (551 : Int32) := by decide
theorem is_999 : (Int16.ofInt (999)).toInt32 = (999 : Int32) := by decide
theorem iX0 : ∀ w ∈ wsX00, w ∈ lw_g := by decide +kernel
theorem iX1 : ∀ w ∈ wsX10, w ∈ lw_g := by decide +kernel
theorem iX3 : ∀ w ∈ wsX30, w ∈ lw_g := by decide +kernel
theorem iX4 : ∀ w ∈ wsX40, w ∈ lw_g := by decide +kernel
theorem iX5 : ∀ w ∈ wsX50, w ∈ lw_g := by decide +kernel
theorem iX6 : ∀ w ∈ wsX60, w ∈ lw_g := by decide +kernel
theorem iX7 : ∀ w ∈ wsX70, w ∈ lw_g := by decide +kernel
theorem iX8 : ∀ w ∈ wsX80, w ∈ lw_g := by decide +kernel
theorem iX9 : ∀ w ∈ wsX90, w ∈ lw_g := by decide +kernel
theorem iX10 : ∀ w ∈ wsX100, w ∈ lw_g := by decide +kernel
theorem iX11 : ∀ w ∈ wsX110, w ∈ lw_g := by decide +kernel
theorem iX12 : ∀ w ∈ wsX120, w ∈ lw_g := by decide +kernel
theorem fg_0_0 {X : CX} {cc : ByteArray} {own : String} {L cs ss n pc q : Nat} {σ : Sto} {ρ : Rho} {lv : List (Nat × Value)} {st : List Value} {β : Type} {res : β} (hC : Cx X cc own L) {k index : Nat} {f : Nat → Option β} (hsh : Sh n k 0) (hw : Cond.fieldLink own index "ConicDesk$Curve" "form" "LConicDesk$Form;" ∈ lw_g) (d : decode cc pc = .ok (.getfield index, 3)) (e : q = pc) (hM : Option.bind (ρ k 0) f = some res) (kk : ∀ j, Sh n j 2 → f j = some res → G X cs ss n σ ρ (pc + 3) lv (vr X j :: st)) : G X cs ss n σ ρ q lv (vr X k :: st) :=
  g_getr (T := TX0) (i := 0) hC hsh rfl iX0 (by decide) rfl hw rfl d e hM kk
theorem fg_0_1 {X : CX} {cc : ByteArray} {own : String} {L cs ss n pc q : Nat} {σ : Sto} {ρ : Rho} {lv : List (Nat × Value)} {st : List Value} (hC : Cx X cc own L) {k index : Nat} (hsh : Sh n k 0) (hw : Cond.fieldLink own index "ConicDesk$Curve" "p" "I" ∈ lw_g) (d : decode cc pc = .ok (.getfield index, 3)) (e : q = pc) (kk : G X cs ss n σ ρ (pc + 3) lv (.int (σ k 1) :: st)) : G X cs ss n σ ρ q lv (vr X k :: st) :=
  g_geti (T := TX0) (i := 1) hC hsh rfl iX0 (by decide) hw rfl d e kk
theorem fg_10_0 {X : CX} {cc : ByteArray} {own : String} {L cs ss n pc q : Nat} {σ : Sto} {ρ : Rho} {lv : List (Nat × Value)} {st : List Value} {β : Type} {res : β} (hC : Cx X cc own L) {k index : Nat} {f : Nat → Option β} (hsh : Sh n k 10) (hw : Cond.fieldLink own index "ConicDesk" "now" "LConicDesk$Moment;" ∈ lw_g) (d : decode cc pc = .ok (.getfield index, 3)) (e : q = pc) (hM : Option.bind (ρ k 0) f = some res) (kk : ∀ j, Sh n j 3 → f j = some res → G X cs ss n σ ρ (pc + 3) lv (vr X j :: st)) : G X cs ss n σ ρ q lv (vr X k :: st) :=
  g_getr (T := TX11) (i := 0) hC hsh rfl iX11 (by decide) rfl hw rfl d e hM kk
theorem fg_10_1 {X : CX} {cc : ByteArray} {own : String} {L cs ss n pc q : Nat} {σ : Sto} {ρ : Rho} {lv : List (Nat × Value)} {st : List Value} {β : Type} {res : β} (hC : Cx X cc own L) {k index : Nat} {f : Nat → Option β} (hsh : Sh n k 10) (hw : Cond.fieldLink own index "ConicDesk" "past" "LConicDesk$Past;" ∈ lw_g) (d : decode cc pc = .ok (.getfield index, 3)) (e : q = pc) (hM : Option.bind (ρ k 1) f = some res) (kk : ∀ j, Sh n j 4 → f j = some res → G X cs ss n σ ρ (pc + 3) lv (vr X j :: st)) : G X cs ss n σ ρ q lv (vr X k :: st) :=
  g_getr (T := TX11) (i := 1) hC hsh rfl iX11 (by decide) rfl hw rfl d e hM kk
theorem fg_10_10 {X : CX} {cc : ByteArray} {own : String} {L cs ss n pc q : Nat} {σ : Sto} {ρ : Rho} {lv : List (Nat × Value)} {st : List Value} {β : Type} {res : β} (hC : Cx X cc own L) {k index : Nat} {f : Nat → Option β} (hsh : Sh n k 10) (hw : Cond.fieldLink own index "ConicDesk" "otherForm" "LConicDesk$Form;" ∈ lw_g) (d : decode cc pc = .ok (.getfield index, 3)) (e : q = pc) (hM : Option.bind (ρ k 10) f = some res) (kk : ∀ j, Sh n j 2 → f j = some res → G X cs ss n σ ρ (pc + 3) lv (vr X j :: st)) : G X cs ss n σ ρ q lv (vr X k :: st) :=
  g_getr (T := TX11) (i := 10) hC hsh rfl iX11 (by decide) rfl hw rfl d e hM kk
theorem fg_10_11 {X : CX} {cc : ByteArray} {own : String} {L cs ss n pc q : Nat} {σ : Sto} {ρ : Rho} {lv : List (Nat × Value)} {st : List Value} {β : Type} {res : β} (hC : Cx X cc own L) {k index : Nat} {f : Nat → Option β} (hsh : Sh n k 10) (hw : Cond.fieldLink own index "ConicDesk" "spot" "LConicDesk$Triple;" ∈ lw_g) (d : decode cc pc = .ok (.getfield index, 3)) (e : q = pc) (hM : Option.bind (ρ k 11) f = some res) (kk : ∀ j, Sh n j 9 → f j = some res → G X cs ss n σ ρ (pc + 3) lv (vr X j :: st)) : G X cs ss n σ ρ q lv (vr X k :: st) :=
  g_getr (T := TX11) (i := 11) hC hsh rfl iX11 (by decide) rfl hw rfl d e hM kk
theorem fg_10_12 {X : CX} {cc : ByteArray} {own : String} {L cs ss n pc q : Nat} {σ : Sto} {ρ : Rho} {lv : List (Nat × Value)} {st : List Value} {β : Type} {res : β} (hC : Cx X cc own L) {k index : Nat} {f : Nat → Option β} (hsh : Sh n k 10) (hw : Cond.fieldLink own index "ConicDesk" "otherSpot" "LConicDesk$Triple;" ∈ lw_g) (d : decode cc pc = .ok (.getfield index, 3)) (e : q = pc) (hM : Option.bind (ρ k 12) f = some res) (kk : ∀ j, Sh n j 9 → f j = some res → G X cs ss n σ ρ (pc + 3) lv (vr X j :: st)) : G X cs ss n σ ρ q lv (vr X k :: st) :=
  g_getr (T := TX11) (i := 12) hC hsh rfl iX11 (by decide) rfl hw rfl d e hM kk
theorem fg_10_13 {X : CX} {cc : ByteArray} {own : String} {L cs ss n pc q : Nat} {σ : Sto} {ρ : Rho} {lv : List (Nat × Value)} {st : List Value} {β : Type} {res : β} (hC : Cx X cc own L) {k index : Nat} {f : Nat → Option β} (hsh : Sh n k 10) (hw : Cond.fieldLink own index "ConicDesk" "edge" "LConicDesk$Triple;" ∈ lw_g) (d : decode cc pc = .ok (.getfield index, 3)) (e : q = pc) (hM : Option.bind (ρ k 13) f = some res) (kk : ∀ j, Sh n j 9 → f j = some res → G X cs ss n σ ρ (pc + 3) lv (vr X j :: st)) : G X cs ss n σ ρ q lv (vr X k :: st) :=
  g_getr (T := TX11) (i := 13) hC hsh rfl iX11 (by decide) rfl hw rfl d e hM kk
theorem fg_10_2 {X : CX} {cc : ByteArray} {own : String} {L cs ss n pc q : Nat} {σ : Sto} {ρ : Rho} {lv : List (Nat × Value)} {st : List Value} {β : Type} {res : β} (hC : Cx X cc own L) {k index : Nat} {f : Nat → Option β} (hsh : Sh n k 10) (hw : Cond.fieldLink own index "ConicDesk" "images" "[LConicDesk$Moment;" ∈ lw_g) (d : decode cc pc = .ok (.getfield index, 3)) (e : q = pc) (hM : Option.bind (ρ k 2) f = some res) (kk : ∀ j, Sh n j 25 → f j = some res → G X cs ss n σ ρ (pc + 3) lv (vr X j :: st)) : G X cs ss n σ ρ q lv (vr X k :: st) :=
  g_getr (T := TX11) (i := 2) hC hsh rfl iX11 (by decide) rfl hw rfl d e hM kk
theorem fg_10_3 {X : CX} {cc : ByteArray} {own : String} {L cs ss n pc q : Nat} {σ : Sto} {ρ : Rho} {lv : List (Nat × Value)} {st : List Value} {β : Type} {res : β} (hC : Cx X cc own L) {k index : Nat} {f : Nat → Option β} (hsh : Sh n k 10) (hw : Cond.fieldLink own index "ConicDesk" "taken" "[Z" ∈ lw_g) (d : decode cc pc = .ok (.getfield index, 3)) (e : q = pc) (hM : Option.bind (ρ k 3) f = some res) (kk : ∀ j, Sh n j 22 → f j = some res → G X cs ss n σ ρ (pc + 3) lv (vr X j :: st)) : G X cs ss n σ ρ q lv (vr X k :: st) :=
  g_getr (T := TX11) (i := 3) hC hsh rfl iX11 (by decide) rfl hw rfl d e hM kk
theorem fg_10_4 {X : CX} {cc : ByteArray} {own : String} {L cs ss n pc q : Nat} {σ : Sto} {ρ : Rho} {lv : List (Nat × Value)} {st : List Value} {β : Type} {res : β} (hC : Cx X cc own L) {k index : Nat} {f : Nat → Option β} (hsh : Sh n k 10) (hw : Cond.fieldLink own index "ConicDesk" "reader" "LConicDesk$Reader;" ∈ lw_g) (d : decode cc pc = .ok (.getfield index, 3)) (e : q = pc) (hM : Option.bind (ρ k 4) f = some res) (kk : ∀ j, Sh n j 6 → f j = some res → G X cs ss n σ ρ (pc + 3) lv (vr X j :: st)) : G X cs ss n σ ρ q lv (vr X k :: st) :=
  g_getr (T := TX11) (i := 4) hC hsh rfl iX11 (by decide) rfl hw rfl d e hM kk
theorem fg_10_5 {X : CX} {cc : ByteArray} {own : String} {L cs ss n pc q : Nat} {σ : Sto} {ρ : Rho} {lv : List (Nat × Value)} {st : List Value} {β : Type} {res : β} (hC : Cx X cc own L) {k index : Nat} {f : Nat → Option β} (hsh : Sh n k 10) (hw : Cond.fieldLink own index "ConicDesk" "bundle" "LConicDesk$Pencil;" ∈ lw_g) (d : decode cc pc = .ok (.getfield index, 3)) (e : q = pc) (hM : Option.bind (ρ k 5) f = some res) (kk : ∀ j, Sh n j 5 → f j = some res → G X cs ss n σ ρ (pc + 3) lv (vr X j :: st)) : G X cs ss n σ ρ q lv (vr X k :: st) :=
  g_getr (T := TX11) (i := 5) hC hsh rfl iX11 (by decide) rfl hw rfl d e hM kk
theorem fg_10_6 {X : CX} {cc : ByteArray} {own : String} {L cs ss n pc q : Nat} {σ : Sto} {ρ : Rho} {lv : List (Nat × Value)} {st : List Value} {β : Type} {res : β} (hC : Cx X cc own L) {k index : Nat} {f : Nat → Option β} (hsh : Sh n k 10) (hw : Cond.fieldLink own index "ConicDesk" "family" "LConicDesk$Family;" ∈ lw_g) (d : decode cc pc = .ok (.getfield index, 3)) (e : q = pc) (hM : Option.bind (ρ k 6) f = some res) (kk : ∀ j, Sh n j 1 → f j = some res → G X cs ss n σ ρ (pc + 3) lv (vr X j :: st)) : G X cs ss n σ ρ q lv (vr X k :: st) :=
  g_getr (T := TX11) (i := 6) hC hsh rfl iX11 (by decide) rfl hw rfl d e hM kk
theorem fg_10_7 {X : CX} {cc : ByteArray} {own : String} {L cs ss n pc q : Nat} {σ : Sto} {ρ : Rho} {lv : List (Nat × Value)} {st : List Value} {β : Type} {res : β} (hC : Cx X cc own L) {k index : Nat} {f : Nat → Option β} (hsh : Sh n k 10) (hw : Cond.fieldLink own index "ConicDesk" "curve" "LConicDesk$Curve;" ∈ lw_g) (d : decode cc pc = .ok (.getfield index, 3)) (e : q = pc) (hM : Option.bind (ρ k 7) f = some res) (kk : ∀ j, Sh n j 0 → f j = some res → G X cs ss n σ ρ (pc + 3) lv (vr X j :: st)) : G X cs ss n σ ρ q lv (vr X k :: st) :=
  g_getr (T := TX11) (i := 7) hC hsh rfl iX11 (by decide) rfl hw rfl d e hM kk
theorem fg_10_8 {X : CX} {cc : ByteArray} {own : String} {L cs ss n pc q : Nat} {σ : Sto} {ρ : Rho} {lv : List (Nat × Value)} {st : List Value} {β : Type} {res : β} (hC : Cx X cc own L) {k index : Nat} {f : Nat → Option β} (hsh : Sh n k 10) (hw : Cond.fieldLink own index "ConicDesk" "dual" "LConicDesk$Curve;" ∈ lw_g) (d : decode cc pc = .ok (.getfield index, 3)) (e : q = pc) (hM : Option.bind (ρ k 8) f = some res) (kk : ∀ j, Sh n j 0 → f j = some res → G X cs ss n σ ρ (pc + 3) lv (vr X j :: st)) : G X cs ss n σ ρ q lv (vr X k :: st) :=
  g_getr (T := TX11) (i := 8) hC hsh rfl iX11 (by decide) rfl hw rfl d e hM kk
theorem fg_10_9 {X : CX} {cc : ByteArray} {own : String} {L cs ss n pc q : Nat} {σ : Sto} {ρ : Rho} {lv : List (Nat × Value)} {st : List Value} {β : Type} {res : β} (hC : Cx X cc own L) {k index : Nat} {f : Nat → Option β} (hsh : Sh n k 10) (hw : Cond.fieldLink own index "ConicDesk" "form" "LConicDesk$Form;" ∈ lw_g) (d : decode cc pc = .ok (.getfield index, 3)) (e : q = pc) (hM : Option.bind (ρ k 9) f = some res) (kk : ∀ j, Sh n j 2 → f j = some res → G X cs ss n σ ρ (pc + 3) lv (vr X j :: st)) : G X cs ss n σ ρ q lv (vr X k :: st) :=
  g_getr (T := TX11) (i := 9) hC hsh rfl iX11 (by decide) rfl hw rfl d e hM kk
theorem fg_11_0 {X : CX} {cc : ByteArray} {own : String} {L cs ss n pc q : Nat} {σ : Sto} {ρ : Rho} {lv : List (Nat × Value)} {st : List Value} {β : Type} {res : β} (hC : Cx X cc own L) {k index : Nat} {f : Nat → Option β} (hsh : Sh n k 11) (hw : Cond.fieldLink own index "ConicDeskModel" "all" "[I" ∈ lw_g) (d : decode cc pc = .ok (.getfield index, 3)) (e : q = pc) (hM : Option.bind (ρ k 0) f = some res) (kk : ∀ j, Sh n j 20 → f j = some res → G X cs ss n σ ρ (pc + 3) lv (vr X j :: st)) : G X cs ss n σ ρ q lv (vr X k :: st) :=
  g_getr (T := TX12) (i := 0) hC hsh rfl iX12 (by decide) rfl hw rfl d e hM kk
theorem fg_11_1 {X : CX} {cc : ByteArray} {own : String} {L cs ss n pc q : Nat} {σ : Sto} {ρ : Rho} {lv : List (Nat × Value)} {st : List Value} {β : Type} {res : β} (hC : Cx X cc own L) {k index : Nat} {f : Nat → Option β} (hsh : Sh n k 11) (hw : Cond.fieldLink own index "ConicDeskModel" "tape" "[I" ∈ lw_g) (d : decode cc pc = .ok (.getfield index, 3)) (e : q = pc) (hM : Option.bind (ρ k 1) f = some res) (kk : ∀ j, Sh n j 20 → f j = some res → G X cs ss n σ ρ (pc + 3) lv (vr X j :: st)) : G X cs ss n σ ρ q lv (vr X k :: st) :=
  g_getr (T := TX12) (i := 1) hC hsh rfl iX12 (by decide) rfl hw rfl d e hM kk
theorem fg_11_10 {X : CX} {cc : ByteArray} {own : String} {L cs ss n pc q : Nat} {σ : Sto} {ρ : Rho} {lv : List (Nat × Value)} {st : List Value} (hC : Cx X cc own L) {k index : Nat} (hsh : Sh n k 11) (hw : Cond.fieldLink own index "ConicDeskModel" "pz" "I" ∈ lw_g) (d : decode cc pc = .ok (.getfield index, 3)) (e : q = pc) (kk : G X cs ss n σ ρ (pc + 3) lv (.int (σ k 10) :: st)) : G X cs ss n σ ρ q lv (vr X k :: st) :=
  g_geti (T := TX12) (i := 10) hC hsh rfl iX12 (by decide) hw rfl d e kk
theorem fg_11_11 {X : CX} {cc : ByteArray} {own : String} {L cs ss n pc q : Nat} {σ : Sto} {ρ : Rho} {lv : List (Nat × Value)} {st : List Value} {β : Type} {res : β} (hC : Cx X cc own L) {k index : Nat} {f : Nat → Option β} (hsh : Sh n k 11) (hw : Cond.fieldLink own index "ConicDeskModel" "m" "[I" ∈ lw_g) (d : decode cc pc = .ok (.getfield index, 3)) (e : q = pc) (hM : Option.bind (ρ k 11) f = some res) (kk : ∀ j, Sh n j 20 → f j = some res → G X cs ss n σ ρ (pc + 3) lv (vr X j :: st)) : G X cs ss n σ ρ q lv (vr X k :: st) :=
  g_getr (T := TX12) (i := 11) hC hsh rfl iX12 (by decide) rfl hw rfl d e hM kk
theorem fg_11_12 {X : CX} {cc : ByteArray} {own : String} {L cs ss n pc q : Nat} {σ : Sto} {ρ : Rho} {lv : List (Nat × Value)} {st : List Value} {β : Type} {res : β} (hC : Cx X cc own L) {k index : Nat} {f : Nat → Option β} (hsh : Sh n k 11) (hw : Cond.fieldLink own index "ConicDeskModel" "row" "[I" ∈ lw_g) (d : decode cc pc = .ok (.getfield index, 3)) (e : q = pc) (hM : Option.bind (ρ k 12) f = some res) (kk : ∀ j, Sh n j 20 → f j = some res → G X cs ss n σ ρ (pc + 3) lv (vr X j :: st)) : G X cs ss n σ ρ q lv (vr X k :: st) :=
  g_getr (T := TX12) (i := 12) hC hsh rfl iX12 (by decide) rfl hw rfl d e hM kk
theorem fg_11_13 {X : CX} {cc : ByteArray} {own : String} {L cs ss n pc q : Nat} {σ : Sto} {ρ : Rho} {lv : List (Nat × Value)} {st : List Value} {β : Type} {res : β} (hC : Cx X cc own L) {k index : Nat} {f : Nat → Option β} (hsh : Sh n k 11) (hw : Cond.fieldLink own index "ConicDeskModel" "its" "[I" ∈ lw_g) (d : decode cc pc = .ok (.getfield index, 3)) (e : q = pc) (hM : Option.bind (ρ k 13) f = some res) (kk : ∀ j, Sh n j 20 → f j = some res → G X cs ss n σ ρ (pc + 3) lv (vr X j :: st)) : G X cs ss n σ ρ q lv (vr X k :: st) :=
  g_getr (T := TX12) (i := 13) hC hsh rfl iX12 (by decide) rfl hw rfl d e hM kk
theorem fg_11_14 {X : CX} {cc : ByteArray} {own : String} {L cs ss n pc q : Nat} {σ : Sto} {ρ : Rho} {lv : List (Nat × Value)} {st : List Value} (hC : Cx X cc own L) {k index : Nat} (hsh : Sh n k 11) (hw : Cond.fieldLink own index "ConicDeskModel" "size0" "I" ∈ lw_g) (d : decode cc pc = .ok (.getfield index, 3)) (e : q = pc) (kk : G X cs ss n σ ρ (pc + 3) lv (.int (σ k 14) :: st)) : G X cs ss n σ ρ q lv (vr X k :: st) :=
  g_geti (T := TX12) (i := 14) hC hsh rfl iX12 (by decide) hw rfl d e kk
theorem fg_11_15 {X : CX} {cc : ByteArray} {own : String} {L cs ss n pc q : Nat} {σ : Sto} {ρ : Rho} {lv : List (Nat × Value)} {st : List Value} (hC : Cx X cc own L) {k index : Nat} (hsh : Sh n k 11) (hw : Cond.fieldLink own index "ConicDeskModel" "next" "I" ∈ lw_g) (d : decode cc pc = .ok (.getfield index, 3)) (e : q = pc) (kk : G X cs ss n σ ρ (pc + 3) lv (.int (σ k 15) :: st)) : G X cs ss n σ ρ q lv (vr X k :: st) :=
  g_geti (T := TX12) (i := 15) hC hsh rfl iX12 (by decide) hw rfl d e kk
theorem fg_11_16 {X : CX} {cc : ByteArray} {own : String} {L cs ss n pc q : Nat} {σ : Sto} {ρ : Rho} {lv : List (Nat × Value)} {st : List Value} (hC : Cx X cc own L) {k index : Nat} (hsh : Sh n k 11) (hw : Cond.fieldLink own index "ConicDeskModel" "token" "I" ∈ lw_g) (d : decode cc pc = .ok (.getfield index, 3)) (e : q = pc) (kk : G X cs ss n σ ρ (pc + 3) lv (.int (σ k 16) :: st)) : G X cs ss n σ ρ q lv (vr X k :: st) :=
  g_geti (T := TX12) (i := 16) hC hsh rfl iX12 (by decide) hw rfl d e kk
theorem fg_11_17 {X : CX} {cc : ByteArray} {own : String} {L cs ss n pc q : Nat} {σ : Sto} {ρ : Rho} {lv : List (Nat × Value)} {st : List Value} (hC : Cx X cc own L) {k index : Nat} (hsh : Sh n k 11) (hw : Cond.fieldLink own index "ConicDeskModel" "place" "I" ∈ lw_g) (d : decode cc pc = .ok (.getfield index, 3)) (e : q = pc) (kk : G X cs ss n σ ρ (pc + 3) lv (.int (σ k 17) :: st)) : G X cs ss n σ ρ q lv (vr X k :: st) :=
  g_geti (T := TX12) (i := 17) hC hsh rfl iX12 (by decide) hw rfl d e kk
theorem fg_11_18 {X : CX} {cc : ByteArray} {own : String} {L cs ss n pc q : Nat} {σ : Sto} {ρ : Rho} {lv : List (Nat × Value)} {st : List Value} (hC : Cx X cc own L) {k index : Nat} (hsh : Sh n k 11) (hw : Cond.fieldLink own index "ConicDeskModel" "value" "J" ∈ lw_g) (d : decode cc pc = .ok (.getfield index, 3)) (e : q = pc) (kk : G X cs ss n σ ρ (pc + 3) lv (.long (jn (σ k 18) (σ k 1018)) :: st)) : G X cs ss n σ ρ q lv (vr X k :: st) :=
  g_getj (T := TX12) (i := 18) hC hsh rfl iX12 (by decide) hw rfl d e kk
theorem fg_11_19 {X : CX} {cc : ByteArray} {own : String} {L cs ss n pc q : Nat} {σ : Sto} {ρ : Rho} {lv : List (Nat × Value)} {st : List Value} {β : Type} {res : β} (hC : Cx X cc own L) {k index : Nat} {f : Nat → Option β} (hsh : Sh n k 11) (hw : Cond.fieldLink own index "ConicDeskModel" "six" "[I" ∈ lw_g) (d : decode cc pc = .ok (.getfield index, 3)) (e : q = pc) (hM : Option.bind (ρ k 19) f = some res) (kk : ∀ j, Sh n j 20 → f j = some res → G X cs ss n σ ρ (pc + 3) lv (vr X j :: st)) : G X cs ss n σ ρ q lv (vr X k :: st) :=
  g_getr (T := TX12) (i := 19) hC hsh rfl iX12 (by decide) rfl hw rfl d e hM kk
theorem fg_11_2 {X : CX} {cc : ByteArray} {own : String} {L cs ss n pc q : Nat} {σ : Sto} {ρ : Rho} {lv : List (Nat × Value)} {st : List Value} {β : Type} {res : β} (hC : Cx X cc own L) {k index : Nat} {f : Nat → Option β} (hsh : Sh n k 11) (hw : Cond.fieldLink own index "ConicDeskModel" "isImage" "[Z" ∈ lw_g) (d : decode cc pc = .ok (.getfield index, 3)) (e : q = pc) (hM : Option.bind (ρ k 2) f = some res) (kk : ∀ j, Sh n j 22 → f j = some res → G X cs ss n σ ρ (pc + 3) lv (vr X j :: st)) : G X cs ss n σ ρ q lv (vr X k :: st) :=
  g_getr (T := TX12) (i := 2) hC hsh rfl iX12 (by decide) rfl hw rfl d e hM kk
theorem fg_11_3 {X : CX} {cc : ByteArray} {own : String} {L cs ss n pc q : Nat} {σ : Sto} {ρ : Rho} {lv : List (Nat × Value)} {st : List Value} (hC : Cx X cc own L) {k index : Nat} (hsh : Sh n k 11) (hw : Cond.fieldLink own index "ConicDeskModel" "taped" "I" ∈ lw_g) (d : decode cc pc = .ok (.getfield index, 3)) (e : q = pc) (kk : G X cs ss n σ ρ (pc + 3) lv (.int (σ k 3) :: st)) : G X cs ss n σ ρ q lv (vr X k :: st) :=
  g_geti (T := TX12) (i := 3) hC hsh rfl iX12 (by decide) hw rfl d e kk
theorem fg_11_4 {X : CX} {cc : ByteArray} {own : String} {L cs ss n pc q : Nat} {σ : Sto} {ρ : Rho} {lv : List (Nat × Value)} {st : List Value} (hC : Cx X cc own L) {k index : Nat} (hsh : Sh n k 11) (hw : Cond.fieldLink own index "ConicDeskModel" "faultKind" "I" ∈ lw_g) (d : decode cc pc = .ok (.getfield index, 3)) (e : q = pc) (kk : G X cs ss n σ ρ (pc + 3) lv (.int (σ k 4) :: st)) : G X cs ss n σ ρ q lv (vr X k :: st) :=
  g_geti (T := TX12) (i := 4) hC hsh rfl iX12 (by decide) hw rfl d e kk
theorem fg_11_5 {X : CX} {cc : ByteArray} {own : String} {L cs ss n pc q : Nat} {σ : Sto} {ρ : Rho} {lv : List (Nat × Value)} {st : List Value} (hC : Cx X cc own L) {k index : Nat} (hsh : Sh n k 11) (hw : Cond.fieldLink own index "ConicDeskModel" "faultPlace" "I" ∈ lw_g) (d : decode cc pc = .ok (.getfield index, 3)) (e : q = pc) (kk : G X cs ss n σ ρ (pc + 3) lv (.int (σ k 5) :: st)) : G X cs ss n σ ρ q lv (vr X k :: st) :=
  g_geti (T := TX12) (i := 5) hC hsh rfl iX12 (by decide) hw rfl d e kk
theorem fg_11_6 {X : CX} {cc : ByteArray} {own : String} {L cs ss n pc q : Nat} {σ : Sto} {ρ : Rho} {lv : List (Nat × Value)} {st : List Value} (hC : Cx X cc own L) {k index : Nat} (hsh : Sh n k 11) (hw : Cond.fieldLink own index "ConicDeskModel" "undos" "I" ∈ lw_g) (d : decode cc pc = .ok (.getfield index, 3)) (e : q = pc) (kk : G X cs ss n σ ρ (pc + 3) lv (.int (σ k 6) :: st)) : G X cs ss n σ ρ q lv (vr X k :: st) :=
  g_geti (T := TX12) (i := 6) hC hsh rfl iX12 (by decide) hw rfl d e kk
theorem fg_11_7 {X : CX} {cc : ByteArray} {own : String} {L cs ss n pc q : Nat} {σ : Sto} {ρ : Rho} {lv : List (Nat × Value)} {st : List Value} (hC : Cx X cc own L) {k index : Nat} (hsh : Sh n k 11) (hw : Cond.fieldLink own index "ConicDeskModel" "p" "I" ∈ lw_g) (d : decode cc pc = .ok (.getfield index, 3)) (e : q = pc) (kk : G X cs ss n σ ρ (pc + 3) lv (.int (σ k 7) :: st)) : G X cs ss n σ ρ q lv (vr X k :: st) :=
  g_geti (T := TX12) (i := 7) hC hsh rfl iX12 (by decide) hw rfl d e kk
theorem fg_11_8 {X : CX} {cc : ByteArray} {own : String} {L cs ss n pc q : Nat} {σ : Sto} {ρ : Rho} {lv : List (Nat × Value)} {st : List Value} (hC : Cx X cc own L) {k index : Nat} (hsh : Sh n k 11) (hw : Cond.fieldLink own index "ConicDeskModel" "px" "I" ∈ lw_g) (d : decode cc pc = .ok (.getfield index, 3)) (e : q = pc) (kk : G X cs ss n σ ρ (pc + 3) lv (.int (σ k 8) :: st)) : G X cs ss n σ ρ q lv (vr X k :: st) :=
  g_geti (T := TX12) (i := 8) hC hsh rfl iX12 (by decide) hw rfl d e kk
theorem fg_11_9 {X : CX} {cc : ByteArray} {own : String} {L cs ss n pc q : Nat} {σ : Sto} {ρ : Rho} {lv : List (Nat × Value)} {st : List Value} (hC : Cx X cc own L) {k index : Nat} (hsh : Sh n k 11) (hw : Cond.fieldLink own index "ConicDeskModel" "py" "I" ∈ lw_g) (d : decode cc pc = .ok (.getfield index, 3)) (e : q = pc) (kk : G X cs ss n σ ρ (pc + 3) lv (.int (σ k 9) :: st)) : G X cs ss n σ ρ q lv (vr X k :: st) :=
  g_geti (T := TX12) (i := 9) hC hsh rfl iX12 (by decide) hw rfl d e kk
theorem fg_1_0 {X : CX} {cc : ByteArray} {own : String} {L cs ss n pc q : Nat} {σ : Sto} {ρ : Rho} {lv : List (Nat × Value)} {st : List Value} {β : Type} {res : β} (hC : Cx X cc own L) {k index : Nat} {f : Nat → Option β} (hsh : Sh n k 1) (hw : Cond.fieldLink own index "ConicDesk$Family" "base" "[LConicDesk$Curve;" ∈ lw_g) (d : decode cc pc = .ok (.getfield index, 3)) (e : q = pc) (hM : Option.bind (ρ k 0) f = some res) (kk : ∀ j, Sh n j 23 → f j = some res → G X cs ss n σ ρ (pc + 3) lv (vr X j :: st)) : G X cs ss n σ ρ q lv (vr X k :: st) :=
  g_getr (T := TX1) (i := 0) hC hsh rfl iX1 (by decide) rfl hw rfl d e hM kk
theorem fg_1_1 {X : CX} {cc : ByteArray} {own : String} {L cs ss n pc q : Nat} {σ : Sto} {ρ : Rho} {lv : List (Nat × Value)} {st : List Value} {β : Type} {res : β} (hC : Cx X cc own L) {k index : Nat} {f : Nat → Option β} (hsh : Sh n k 1) (hw : Cond.fieldLink own index "ConicDesk$Family" "spot" "LConicDesk$Triple;" ∈ lw_g) (d : decode cc pc = .ok (.getfield index, 3)) (e : q = pc) (hM : Option.bind (ρ k 1) f = some res) (kk : ∀ j, Sh n j 9 → f j = some res → G X cs ss n σ ρ (pc + 3) lv (vr X j :: st)) : G X cs ss n σ ρ q lv (vr X k :: st) :=
  g_getr (T := TX1) (i := 1) hC hsh rfl iX1 (by decide) rfl hw rfl d e hM kk
theorem fg_1_2 {X : CX} {cc : ByteArray} {own : String} {L cs ss n pc q : Nat} {σ : Sto} {ρ : Rho} {lv : List (Nat × Value)} {st : List Value} (hC : Cx X cc own L) {k index : Nat} (hsh : Sh n k 1) (hw : Cond.fieldLink own index "ConicDesk$Family" "free" "I" ∈ lw_g) (d : decode cc pc = .ok (.getfield index, 3)) (e : q = pc) (kk : G X cs ss n σ ρ (pc + 3) lv (.int (σ k 2) :: st)) : G X cs ss n σ ρ q lv (vr X k :: st) :=
  g_geti (T := TX1) (i := 2) hC hsh rfl iX1 (by decide) hw rfl d e kk
theorem fg_2_0 {X : CX} {cc : ByteArray} {own : String} {L cs ss n pc q : Nat} {σ : Sto} {ρ : Rho} {lv : List (Nat × Value)} {st : List Value} (hC : Cx X cc own L) {k index : Nat} (hsh : Sh n k 2) (hw : Cond.fieldLink own index "ConicDesk$Form" "a" "I" ∈ lw_g) (d : decode cc pc = .ok (.getfield index, 3)) (e : q = pc) (kk : G X cs ss n σ ρ (pc + 3) lv (.int (σ k 0) :: st)) : G X cs ss n σ ρ q lv (vr X k :: st) :=
  g_geti (T := TX3) (i := 0) hC hsh rfl iX3 (by decide) hw rfl d e kk
theorem fg_2_1 {X : CX} {cc : ByteArray} {own : String} {L cs ss n pc q : Nat} {σ : Sto} {ρ : Rho} {lv : List (Nat × Value)} {st : List Value} (hC : Cx X cc own L) {k index : Nat} (hsh : Sh n k 2) (hw : Cond.fieldLink own index "ConicDesk$Form" "b" "I" ∈ lw_g) (d : decode cc pc = .ok (.getfield index, 3)) (e : q = pc) (kk : G X cs ss n σ ρ (pc + 3) lv (.int (σ k 1) :: st)) : G X cs ss n σ ρ q lv (vr X k :: st) :=
  g_geti (T := TX3) (i := 1) hC hsh rfl iX3 (by decide) hw rfl d e kk
theorem fg_2_2 {X : CX} {cc : ByteArray} {own : String} {L cs ss n pc q : Nat} {σ : Sto} {ρ : Rho} {lv : List (Nat × Value)} {st : List Value} (hC : Cx X cc own L) {k index : Nat} (hsh : Sh n k 2) (hw : Cond.fieldLink own index "ConicDesk$Form" "c" "I" ∈ lw_g) (d : decode cc pc = .ok (.getfield index, 3)) (e : q = pc) (kk : G X cs ss n σ ρ (pc + 3) lv (.int (σ k 2) :: st)) : G X cs ss n σ ρ q lv (vr X k :: st) :=
  g_geti (T := TX3) (i := 2) hC hsh rfl iX3 (by decide) hw rfl d e kk
theorem fg_2_3 {X : CX} {cc : ByteArray} {own : String} {L cs ss n pc q : Nat} {σ : Sto} {ρ : Rho} {lv : List (Nat × Value)} {st : List Value} (hC : Cx X cc own L) {k index : Nat} (hsh : Sh n k 2) (hw : Cond.fieldLink own index "ConicDesk$Form" "f" "I" ∈ lw_g) (d : decode cc pc = .ok (.getfield index, 3)) (e : q = pc) (kk : G X cs ss n σ ρ (pc + 3) lv (.int (σ k 3) :: st)) : G X cs ss n σ ρ q lv (vr X k :: st) :=
  g_geti (T := TX3) (i := 3) hC hsh rfl iX3 (by decide) hw rfl d e kk
theorem fg_2_4 {X : CX} {cc : ByteArray} {own : String} {L cs ss n pc q : Nat} {σ : Sto} {ρ : Rho} {lv : List (Nat × Value)} {st : List Value} (hC : Cx X cc own L) {k index : Nat} (hsh : Sh n k 2) (hw : Cond.fieldLink own index "ConicDesk$Form" "g" "I" ∈ lw_g) (d : decode cc pc = .ok (.getfield index, 3)) (e : q = pc) (kk : G X cs ss n σ ρ (pc + 3) lv (.int (σ k 4) :: st)) : G X cs ss n σ ρ q lv (vr X k :: st) :=
  g_geti (T := TX3) (i := 4) hC hsh rfl iX3 (by decide) hw rfl d e kk
theorem fg_2_5 {X : CX} {cc : ByteArray} {own : String} {L cs ss n pc q : Nat} {σ : Sto} {ρ : Rho} {lv : List (Nat × Value)} {st : List Value} (hC : Cx X cc own L) {k index : Nat} (hsh : Sh n k 2) (hw : Cond.fieldLink own index "ConicDesk$Form" "h" "I" ∈ lw_g) (d : decode cc pc = .ok (.getfield index, 3)) (e : q = pc) (kk : G X cs ss n σ ρ (pc + 3) lv (.int (σ k 5) :: st)) : G X cs ss n σ ρ q lv (vr X k :: st) :=
  g_geti (T := TX3) (i := 5) hC hsh rfl iX3 (by decide) hw rfl d e kk
theorem fg_3_0 {X : CX} {cc : ByteArray} {own : String} {L cs ss n pc q : Nat} {σ : Sto} {ρ : Rho} {lv : List (Nat × Value)} {st : List Value} {β : Type} {res : β} (hC : Cx X cc own L) {k index : Nat} {f : Nat → Option β} (hsh : Sh n k 3) (hw : Cond.fieldLink own index "ConicDesk$Moment" "sheet" "LConicDesk$Sheet;" ∈ lw_g) (d : decode cc pc = .ok (.getfield index, 3)) (e : q = pc) (hM : Option.bind (ρ k 0) f = some res) (kk : ∀ j, Sh n j 7 → f j = some res → G X cs ss n σ ρ (pc + 3) lv (vr X j :: st)) : G X cs ss n σ ρ q lv (vr X k :: st) :=
  g_getr (T := TX4) (i := 0) hC hsh rfl iX4 (by decide) rfl hw rfl d e hM kk
theorem fg_3_1 {X : CX} {cc : ByteArray} {own : String} {L cs ss n pc q : Nat} {σ : Sto} {ρ : Rho} {lv : List (Nat × Value)} {st : List Value} {β : Type} {res : β} (hC : Cx X cc own L) {k index : Nat} {f : Nat → Option β} (hsh : Sh n k 3) (hw : Cond.fieldLink own index "ConicDesk$Moment" "tape" "LConicDesk$Tape;" ∈ lw_g) (d : decode cc pc = .ok (.getfield index, 3)) (e : q = pc) (hM : Option.bind (ρ k 1) f = some res) (kk : ∀ j, Sh n j 8 → f j = some res → G X cs ss n σ ρ (pc + 3) lv (vr X j :: st)) : G X cs ss n σ ρ q lv (vr X k :: st) :=
  g_getr (T := TX4) (i := 1) hC hsh rfl iX4 (by decide) rfl hw rfl d e hM kk
theorem fg_3_2 {X : CX} {cc : ByteArray} {own : String} {L cs ss n pc q : Nat} {σ : Sto} {ρ : Rho} {lv : List (Nat × Value)} {st : List Value} (hC : Cx X cc own L) {k index : Nat} (hsh : Sh n k 3) (hw : Cond.fieldLink own index "ConicDesk$Moment" "fault" "I" ∈ lw_g) (d : decode cc pc = .ok (.getfield index, 3)) (e : q = pc) (kk : G X cs ss n σ ρ (pc + 3) lv (.int (σ k 2) :: st)) : G X cs ss n σ ρ q lv (vr X k :: st) :=
  g_geti (T := TX4) (i := 2) hC hsh rfl iX4 (by decide) hw rfl d e kk
theorem fg_3_3 {X : CX} {cc : ByteArray} {own : String} {L cs ss n pc q : Nat} {σ : Sto} {ρ : Rho} {lv : List (Nat × Value)} {st : List Value} (hC : Cx X cc own L) {k index : Nat} (hsh : Sh n k 3) (hw : Cond.fieldLink own index "ConicDesk$Moment" "faultPlace" "I" ∈ lw_g) (d : decode cc pc = .ok (.getfield index, 3)) (e : q = pc) (kk : G X cs ss n σ ρ (pc + 3) lv (.int (σ k 3) :: st)) : G X cs ss n σ ρ q lv (vr X k :: st) :=
  g_geti (T := TX4) (i := 3) hC hsh rfl iX4 (by decide) hw rfl d e kk
theorem fg_3_4 {X : CX} {cc : ByteArray} {own : String} {L cs ss n pc q : Nat} {σ : Sto} {ρ : Rho} {lv : List (Nat × Value)} {st : List Value} (hC : Cx X cc own L) {k index : Nat} (hsh : Sh n k 3) (hw : Cond.fieldLink own index "ConicDesk$Moment" "reason" "I" ∈ lw_g) (d : decode cc pc = .ok (.getfield index, 3)) (e : q = pc) (kk : G X cs ss n σ ρ (pc + 3) lv (.int (σ k 4) :: st)) : G X cs ss n σ ρ q lv (vr X k :: st) :=
  g_geti (T := TX4) (i := 4) hC hsh rfl iX4 (by decide) hw rfl d e kk
theorem fg_3_5 {X : CX} {cc : ByteArray} {own : String} {L cs ss n pc q : Nat} {σ : Sto} {ρ : Rho} {lv : List (Nat × Value)} {st : List Value} (hC : Cx X cc own L) {k index : Nat} (hsh : Sh n k 3) (hw : Cond.fieldLink own index "ConicDesk$Moment" "cause" "I" ∈ lw_g) (d : decode cc pc = .ok (.getfield index, 3)) (e : q = pc) (kk : G X cs ss n σ ρ (pc + 3) lv (.int (σ k 5) :: st)) : G X cs ss n σ ρ q lv (vr X k :: st) :=
  g_geti (T := TX4) (i := 5) hC hsh rfl iX4 (by decide) hw rfl d e kk
theorem fg_4_0 {X : CX} {cc : ByteArray} {own : String} {L cs ss n pc q : Nat} {σ : Sto} {ρ : Rho} {lv : List (Nat × Value)} {st : List Value} {β : Type} {res : β} (hC : Cx X cc own L) {k index : Nat} {f : Nat → Option β} (hsh : Sh n k 4) (hw : Cond.fieldLink own index "ConicDesk$Past" "ring" "[LConicDesk$Sheet;" ∈ lw_g) (d : decode cc pc = .ok (.getfield index, 3)) (e : q = pc) (hM : Option.bind (ρ k 0) f = some res) (kk : ∀ j, Sh n j 24 → f j = some res → G X cs ss n σ ρ (pc + 3) lv (vr X j :: st)) : G X cs ss n σ ρ q lv (vr X k :: st) :=
  g_getr (T := TX5) (i := 0) hC hsh rfl iX5 (by decide) rfl hw rfl d e hM kk
theorem fg_4_1 {X : CX} {cc : ByteArray} {own : String} {L cs ss n pc q : Nat} {σ : Sto} {ρ : Rho} {lv : List (Nat × Value)} {st : List Value} (hC : Cx X cc own L) {k index : Nat} (hsh : Sh n k 4) (hw : Cond.fieldLink own index "ConicDesk$Past" "next" "I" ∈ lw_g) (d : decode cc pc = .ok (.getfield index, 3)) (e : q = pc) (kk : G X cs ss n σ ρ (pc + 3) lv (.int (σ k 1) :: st)) : G X cs ss n σ ρ q lv (vr X k :: st) :=
  g_geti (T := TX5) (i := 1) hC hsh rfl iX5 (by decide) hw rfl d e kk
theorem fg_4_2 {X : CX} {cc : ByteArray} {own : String} {L cs ss n pc q : Nat} {σ : Sto} {ρ : Rho} {lv : List (Nat × Value)} {st : List Value} (hC : Cx X cc own L) {k index : Nat} (hsh : Sh n k 4) (hw : Cond.fieldLink own index "ConicDesk$Past" "size" "I" ∈ lw_g) (d : decode cc pc = .ok (.getfield index, 3)) (e : q = pc) (kk : G X cs ss n σ ρ (pc + 3) lv (.int (σ k 2) :: st)) : G X cs ss n σ ρ q lv (vr X k :: st) :=
  g_geti (T := TX5) (i := 2) hC hsh rfl iX5 (by decide) hw rfl d e kk
theorem fg_5_0 {X : CX} {cc : ByteArray} {own : String} {L cs ss n pc q : Nat} {σ : Sto} {ρ : Rho} {lv : List (Nat × Value)} {st : List Value} {β : Type} {res : β} (hC : Cx X cc own L) {k index : Nat} {f : Nat → Option β} (hsh : Sh n k 5) (hw : Cond.fieldLink own index "ConicDesk$Pencil" "one" "LConicDesk$Curve;" ∈ lw_g) (d : decode cc pc = .ok (.getfield index, 3)) (e : q = pc) (hM : Option.bind (ρ k 0) f = some res) (kk : ∀ j, Sh n j 0 → f j = some res → G X cs ss n σ ρ (pc + 3) lv (vr X j :: st)) : G X cs ss n σ ρ q lv (vr X k :: st) :=
  g_getr (T := TX6) (i := 0) hC hsh rfl iX6 (by decide) rfl hw rfl d e hM kk
theorem fg_5_1 {X : CX} {cc : ByteArray} {own : String} {L cs ss n pc q : Nat} {σ : Sto} {ρ : Rho} {lv : List (Nat × Value)} {st : List Value} {β : Type} {res : β} (hC : Cx X cc own L) {k index : Nat} {f : Nat → Option β} (hsh : Sh n k 5) (hw : Cond.fieldLink own index "ConicDesk$Pencil" "other" "LConicDesk$Curve;" ∈ lw_g) (d : decode cc pc = .ok (.getfield index, 3)) (e : q = pc) (hM : Option.bind (ρ k 1) f = some res) (kk : ∀ j, Sh n j 0 → f j = some res → G X cs ss n σ ρ (pc + 3) lv (vr X j :: st)) : G X cs ss n σ ρ q lv (vr X k :: st) :=
  g_getr (T := TX6) (i := 1) hC hsh rfl iX6 (by decide) rfl hw rfl d e hM kk
theorem fg_5_2 {X : CX} {cc : ByteArray} {own : String} {L cs ss n pc q : Nat} {σ : Sto} {ρ : Rho} {lv : List (Nat × Value)} {st : List Value} {β : Type} {res : β} (hC : Cx X cc own L) {k index : Nat} {f : Nat → Option β} (hsh : Sh n k 5) (hw : Cond.fieldLink own index "ConicDesk$Pencil" "mixed" "LConicDesk$Curve;" ∈ lw_g) (d : decode cc pc = .ok (.getfield index, 3)) (e : q = pc) (hM : Option.bind (ρ k 2) f = some res) (kk : ∀ j, Sh n j 0 → f j = some res → G X cs ss n σ ρ (pc + 3) lv (vr X j :: st)) : G X cs ss n σ ρ q lv (vr X k :: st) :=
  g_getr (T := TX6) (i := 2) hC hsh rfl iX6 (by decide) rfl hw rfl d e hM kk
theorem fg_5_3 {X : CX} {cc : ByteArray} {own : String} {L cs ss n pc q : Nat} {σ : Sto} {ρ : Rho} {lv : List (Nat × Value)} {st : List Value} {β : Type} {res : β} (hC : Cx X cc own L) {k index : Nat} {f : Nat → Option β} (hsh : Sh n k 5) (hw : Cond.fieldLink own index "ConicDesk$Pencil" "spot" "LConicDesk$Triple;" ∈ lw_g) (d : decode cc pc = .ok (.getfield index, 3)) (e : q = pc) (hM : Option.bind (ρ k 3) f = some res) (kk : ∀ j, Sh n j 9 → f j = some res → G X cs ss n σ ρ (pc + 3) lv (vr X j :: st)) : G X cs ss n σ ρ q lv (vr X k :: st) :=
  g_getr (T := TX6) (i := 3) hC hsh rfl iX6 (by decide) rfl hw rfl d e hM kk
theorem fg_5_4 {X : CX} {cc : ByteArray} {own : String} {L cs ss n pc q : Nat} {σ : Sto} {ρ : Rho} {lv : List (Nat × Value)} {st : List Value} {β : Type} {res : β} (hC : Cx X cc own L) {k index : Nat} {f : Nat → Option β} (hsh : Sh n k 5) (hw : Cond.fieldLink own index "ConicDesk$Pencil" "line" "LConicDesk$Triple;" ∈ lw_g) (d : decode cc pc = .ok (.getfield index, 3)) (e : q = pc) (hM : Option.bind (ρ k 4) f = some res) (kk : ∀ j, Sh n j 9 → f j = some res → G X cs ss n σ ρ (pc + 3) lv (vr X j :: st)) : G X cs ss n σ ρ q lv (vr X k :: st) :=
  g_getr (T := TX6) (i := 4) hC hsh rfl iX6 (by decide) rfl hw rfl d e hM kk
theorem fg_6_0 {X : CX} {cc : ByteArray} {own : String} {L cs ss n pc q : Nat} {σ : Sto} {ρ : Rho} {lv : List (Nat × Value)} {st : List Value} {β : Type} {res : β} (hC : Cx X cc own L) {k index : Nat} {f : Nat → Option β} (hsh : Sh n k 6) (hw : Cond.fieldLink own index "ConicDesk$Reader" "draft" "LConicDesk$Sheet;" ∈ lw_g) (d : decode cc pc = .ok (.getfield index, 3)) (e : q = pc) (hM : Option.bind (ρ k 0) f = some res) (kk : ∀ j, Sh n j 7 → f j = some res → G X cs ss n σ ρ (pc + 3) lv (vr X j :: st)) : G X cs ss n σ ρ q lv (vr X k :: st) :=
  g_getr (T := TX7) (i := 0) hC hsh rfl iX7 (by decide) rfl hw rfl d e hM kk
theorem fg_6_1 {X : CX} {cc : ByteArray} {own : String} {L cs ss n pc q : Nat} {σ : Sto} {ρ : Rho} {lv : List (Nat × Value)} {st : List Value} (hC : Cx X cc own L) {k index : Nat} (hsh : Sh n k 6) (hw : Cond.fieldLink own index "ConicDesk$Reader" "fault" "I" ∈ lw_g) (d : decode cc pc = .ok (.getfield index, 3)) (e : q = pc) (kk : G X cs ss n σ ρ (pc + 3) lv (.int (σ k 1) :: st)) : G X cs ss n σ ρ q lv (vr X k :: st) :=
  g_geti (T := TX7) (i := 1) hC hsh rfl iX7 (by decide) hw rfl d e kk
theorem fg_6_2 {X : CX} {cc : ByteArray} {own : String} {L cs ss n pc q : Nat} {σ : Sto} {ρ : Rho} {lv : List (Nat × Value)} {st : List Value} (hC : Cx X cc own L) {k index : Nat} (hsh : Sh n k 6) (hw : Cond.fieldLink own index "ConicDesk$Reader" "faultPlace" "I" ∈ lw_g) (d : decode cc pc = .ok (.getfield index, 3)) (e : q = pc) (kk : G X cs ss n σ ρ (pc + 3) lv (.int (σ k 2) :: st)) : G X cs ss n σ ρ q lv (vr X k :: st) :=
  g_geti (T := TX7) (i := 2) hC hsh rfl iX7 (by decide) hw rfl d e kk
theorem fg_6_3 {X : CX} {cc : ByteArray} {own : String} {L cs ss n pc q : Nat} {σ : Sto} {ρ : Rho} {lv : List (Nat × Value)} {st : List Value} {β : Type} {res : β} (hC : Cx X cc own L) {k index : Nat} {f : Nat → Option β} (hsh : Sh n k 6) (hw : Cond.fieldLink own index "ConicDesk$Reader" "form" "LConicDesk$Form;" ∈ lw_g) (d : decode cc pc = .ok (.getfield index, 3)) (e : q = pc) (hM : Option.bind (ρ k 3) f = some res) (kk : ∀ j, Sh n j 2 → f j = some res → G X cs ss n σ ρ (pc + 3) lv (vr X j :: st)) : G X cs ss n σ ρ q lv (vr X k :: st) :=
  g_getr (T := TX7) (i := 3) hC hsh rfl iX7 (by decide) rfl hw rfl d e hM kk
theorem fg_6_4 {X : CX} {cc : ByteArray} {own : String} {L cs ss n pc q : Nat} {σ : Sto} {ρ : Rho} {lv : List (Nat × Value)} {st : List Value} {β : Type} {res : β} (hC : Cx X cc own L) {k index : Nat} {f : Nat → Option β} (hsh : Sh n k 6) (hw : Cond.fieldLink own index "ConicDesk$Reader" "spot" "LConicDesk$Triple;" ∈ lw_g) (d : decode cc pc = .ok (.getfield index, 3)) (e : q = pc) (hM : Option.bind (ρ k 4) f = some res) (kk : ∀ j, Sh n j 9 → f j = some res → G X cs ss n σ ρ (pc + 3) lv (vr X j :: st)) : G X cs ss n σ ρ q lv (vr X k :: st) :=
  g_getr (T := TX7) (i := 4) hC hsh rfl iX7 (by decide) rfl hw rfl d e hM kk
theorem fg_6_5 {X : CX} {cc : ByteArray} {own : String} {L cs ss n pc q : Nat} {σ : Sto} {ρ : Rho} {lv : List (Nat × Value)} {st : List Value} (hC : Cx X cc own L) {k index : Nat} (hsh : Sh n k 6) (hw : Cond.fieldLink own index "ConicDesk$Reader" "at" "I" ∈ lw_g) (d : decode cc pc = .ok (.getfield index, 3)) (e : q = pc) (kk : G X cs ss n σ ρ (pc + 3) lv (.int (σ k 5) :: st)) : G X cs ss n σ ρ q lv (vr X k :: st) :=
  g_geti (T := TX7) (i := 5) hC hsh rfl iX7 (by decide) hw rfl d e kk
theorem fg_6_6 {X : CX} {cc : ByteArray} {own : String} {L cs ss n pc q : Nat} {σ : Sto} {ρ : Rho} {lv : List (Nat × Value)} {st : List Value} (hC : Cx X cc own L) {k index : Nat} (hsh : Sh n k 6) (hw : Cond.fieldLink own index "ConicDesk$Reader" "token" "I" ∈ lw_g) (d : decode cc pc = .ok (.getfield index, 3)) (e : q = pc) (kk : G X cs ss n σ ρ (pc + 3) lv (.int (σ k 6) :: st)) : G X cs ss n σ ρ q lv (vr X k :: st) :=
  g_geti (T := TX7) (i := 6) hC hsh rfl iX7 (by decide) hw rfl d e kk
theorem fg_6_7 {X : CX} {cc : ByteArray} {own : String} {L cs ss n pc q : Nat} {σ : Sto} {ρ : Rho} {lv : List (Nat × Value)} {st : List Value} (hC : Cx X cc own L) {k index : Nat} (hsh : Sh n k 6) (hw : Cond.fieldLink own index "ConicDesk$Reader" "start" "I" ∈ lw_g) (d : decode cc pc = .ok (.getfield index, 3)) (e : q = pc) (kk : G X cs ss n σ ρ (pc + 3) lv (.int (σ k 7) :: st)) : G X cs ss n σ ρ q lv (vr X k :: st) :=
  g_geti (T := TX7) (i := 7) hC hsh rfl iX7 (by decide) hw rfl d e kk
theorem fg_6_8 {X : CX} {cc : ByteArray} {own : String} {L cs ss n pc q : Nat} {σ : Sto} {ρ : Rho} {lv : List (Nat × Value)} {st : List Value} (hC : Cx X cc own L) {k index : Nat} (hsh : Sh n k 6) (hw : Cond.fieldLink own index "ConicDesk$Reader" "value" "I" ∈ lw_g) (d : decode cc pc = .ok (.getfield index, 3)) (e : q = pc) (kk : G X cs ss n σ ρ (pc + 3) lv (.int (σ k 8) :: st)) : G X cs ss n σ ρ q lv (vr X k :: st) :=
  g_geti (T := TX7) (i := 8) hC hsh rfl iX7 (by decide) hw rfl d e kk
theorem fg_7_0 {X : CX} {cc : ByteArray} {own : String} {L cs ss n pc q : Nat} {σ : Sto} {ρ : Rho} {lv : List (Nat × Value)} {st : List Value} (hC : Cx X cc own L) {k index : Nat} (hsh : Sh n k 7) (hw : Cond.fieldLink own index "ConicDesk$Sheet" "prime" "I" ∈ lw_g) (d : decode cc pc = .ok (.getfield index, 3)) (e : q = pc) (kk : G X cs ss n σ ρ (pc + 3) lv (.int (σ k 0) :: st)) : G X cs ss n σ ρ q lv (vr X k :: st) :=
  g_geti (T := TX8) (i := 0) hC hsh rfl iX8 (by decide) hw rfl d e kk
theorem fg_7_1 {X : CX} {cc : ByteArray} {own : String} {L cs ss n pc q : Nat} {σ : Sto} {ρ : Rho} {lv : List (Nat × Value)} {st : List Value} (hC : Cx X cc own L) {k index : Nat} (hsh : Sh n k 7) (hw : Cond.fieldLink own index "ConicDesk$Sheet" "markCount" "I" ∈ lw_g) (d : decode cc pc = .ok (.getfield index, 3)) (e : q = pc) (kk : G X cs ss n σ ρ (pc + 3) lv (.int (σ k 1) :: st)) : G X cs ss n σ ρ q lv (vr X k :: st) :=
  g_geti (T := TX8) (i := 1) hC hsh rfl iX8 (by decide) hw rfl d e kk
theorem fg_7_2 {X : CX} {cc : ByteArray} {own : String} {L cs ss n pc q : Nat} {σ : Sto} {ρ : Rho} {lv : List (Nat × Value)} {st : List Value} {β : Type} {res : β} (hC : Cx X cc own L) {k index : Nat} {f : Nat → Option β} (hsh : Sh n k 7) (hw : Cond.fieldLink own index "ConicDesk$Sheet" "marks" "[I" ∈ lw_g) (d : decode cc pc = .ok (.getfield index, 3)) (e : q = pc) (hM : Option.bind (ρ k 2) f = some res) (kk : ∀ j, Sh n j 20 → f j = some res → G X cs ss n σ ρ (pc + 3) lv (vr X j :: st)) : G X cs ss n σ ρ q lv (vr X k :: st) :=
  g_getr (T := TX8) (i := 2) hC hsh rfl iX8 (by decide) rfl hw rfl d e hM kk
theorem fg_7_3 {X : CX} {cc : ByteArray} {own : String} {L cs ss n pc q : Nat} {σ : Sto} {ρ : Rho} {lv : List (Nat × Value)} {st : List Value} {β : Type} {res : β} (hC : Cx X cc own L) {k index : Nat} {f : Nat → Option β} (hsh : Sh n k 7) (hw : Cond.fieldLink own index "ConicDesk$Sheet" "numbers" "[I" ∈ lw_g) (d : decode cc pc = .ok (.getfield index, 3)) (e : q = pc) (hM : Option.bind (ρ k 3) f = some res) (kk : ∀ j, Sh n j 20 → f j = some res → G X cs ss n σ ρ (pc + 3) lv (vr X j :: st)) : G X cs ss n σ ρ q lv (vr X k :: st) :=
  g_getr (T := TX8) (i := 3) hC hsh rfl iX8 (by decide) rfl hw rfl d e hM kk
theorem fg_8_0 {X : CX} {cc : ByteArray} {own : String} {L cs ss n pc q : Nat} {σ : Sto} {ρ : Rho} {lv : List (Nat × Value)} {st : List Value} {β : Type} {res : β} (hC : Cx X cc own L) {k index : Nat} {f : Nat → Option β} (hsh : Sh n k 8) (hw : Cond.fieldLink own index "ConicDesk$Tape" "bytes" "[B" ∈ lw_g) (d : decode cc pc = .ok (.getfield index, 3)) (e : q = pc) (hM : Option.bind (ρ k 0) f = some res) (kk : ∀ j, Sh n j 21 → f j = some res → G X cs ss n σ ρ (pc + 3) lv (vr X j :: st)) : G X cs ss n σ ρ q lv (vr X k :: st) :=
  g_getr (T := TX9) (i := 0) hC hsh rfl iX9 (by decide) rfl hw rfl d e hM kk
theorem fg_8_1 {X : CX} {cc : ByteArray} {own : String} {L cs ss n pc q : Nat} {σ : Sto} {ρ : Rho} {lv : List (Nat × Value)} {st : List Value} (hC : Cx X cc own L) {k index : Nat} (hsh : Sh n k 8) (hw : Cond.fieldLink own index "ConicDesk$Tape" "length" "I" ∈ lw_g) (d : decode cc pc = .ok (.getfield index, 3)) (e : q = pc) (kk : G X cs ss n σ ρ (pc + 3) lv (.int (σ k 1) :: st)) : G X cs ss n σ ρ q lv (vr X k :: st) :=
  g_geti (T := TX9) (i := 1) hC hsh rfl iX9 (by decide) hw rfl d e kk
theorem fg_9_0 {X : CX} {cc : ByteArray} {own : String} {L cs ss n pc q : Nat} {σ : Sto} {ρ : Rho} {lv : List (Nat × Value)} {st : List Value} (hC : Cx X cc own L) {k index : Nat} (hsh : Sh n k 9) (hw : Cond.fieldLink own index "ConicDesk$Triple" "x" "I" ∈ lw_g) (d : decode cc pc = .ok (.getfield index, 3)) (e : q = pc) (kk : G X cs ss n σ ρ (pc + 3) lv (.int (σ k 0) :: st)) : G X cs ss n σ ρ q lv (vr X k :: st) :=
  g_geti (T := TX10) (i := 0) hC hsh rfl iX10 (by decide) hw rfl d e kk
theorem fg_9_1 {X : CX} {cc : ByteArray} {own : String} {L cs ss n pc q : Nat} {σ : Sto} {ρ : Rho} {lv : List (Nat × Value)} {st : List Value} (hC : Cx X cc own L) {k index : Nat} (hsh : Sh n k 9) (hw : Cond.fieldLink own index "ConicDesk$Triple" "y" "I" ∈ lw_g) (d : decode cc pc = .ok (.getfield index, 3)) (e : q = pc) (kk : G X cs ss n σ ρ (pc + 3) lv (.int (σ k 1) :: st)) : G X cs ss n σ ρ q lv (vr X k :: st) :=
  g_geti (T := TX10) (i := 1) hC hsh rfl iX10 (by decide) hw rfl d e kk
theorem fg_9_2 {X : CX} {cc : ByteArray} {own : String} {L cs ss n pc q : Nat} {σ : Sto} {ρ : Rho} {lv : List (Nat × Value)} {st : List Value} (hC : Cx X cc own L) {k index : Nat} (hsh : Sh n k 9) (hw : Cond.fieldLink own index "ConicDesk$Triple" "z" "I" ∈ lw_g) (d : decode cc pc = .ok (.getfield index, 3)) (e : q = pc) (kk : G X cs ss n σ ρ (pc + 3) lv (.int (σ k 2) :: st)) : G X cs ss n σ ρ q lv (vr X k :: st) :=
  g_geti (T := TX10) (i := 2) hC hsh rfl iX10 (by decide) hw rfl d e kk
theorem fp_0_0 {X : CX} {cc : ByteArray} {own : String} {L cs ss n pc q : Nat} {σ : Sto} {ρ : Rho} {lv : List (Nat × Value)} {st : List Value} {β : Type} {res : β} (hC : Cx X cc "ConicDesk$Curve" L) (hin : (xh X).name = "<init>") {k j index : Nat} {f : Rho → Option β} (hsh : Sh n k 0) (hj : Sh n j 2) (hw : Cond.fieldLink "ConicDesk$Curve" index "ConicDesk$Curve" "form" "LConicDesk$Form;" ∈ lw_g) (d : decode cc pc = .ok (.putfield index, 3)) (e : q = pc) (hM : bn (ru ρ k 0 (some j)) f = some res) (kk : ∀ ρ', f ρ' = some res → G X cs ss n σ ρ' (pc + 3) lv st) : G X cs ss n σ ρ q lv (vr X j :: vr X k :: st) :=
  g_putr (T := TX0) (i := 0) (ty := tyX0) hC hin hsh hj rfl rfl iX0 tyX0_ok nmX0 (by decide) (fun a => ⟨rfl, rfl⟩) rfl hw rfl rfl d e hM kk
theorem fp_0_1 {X : CX} {cc : ByteArray} {own : String} {L cs ss n pc q : Nat} {σ : Sto} {ρ : Rho} {lv : List (Nat × Value)} {st : List Value} {β : Type} {res : β} (hC : Cx X cc own L) {k index : Nat} {x : Int32} {f : Sto → Option β} (hsh : Sh n k 0) (hw : Cond.fieldLink own index "ConicDesk$Curve" "p" "I" ∈ lw_g) (d : decode cc pc = .ok (.putfield index, 3)) (e : q = pc) (hM : bn (su σ k 1 x) f = some res) (kk : ∀ σ', f σ' = some res → G X cs ss n σ' ρ (pc + 3) lv st) : G X cs ss n σ ρ q lv (.int x :: vr X k :: st) :=
  g_puti (T := TX0) (i := 1) hC hsh rfl iX0 tyX0_ok nmX0 (by decide) rfl rfl hw rfl d e hM kk
theorem fp_10_0 {X : CX} {cc : ByteArray} {own : String} {L cs ss n pc q : Nat} {σ : Sto} {ρ : Rho} {lv : List (Nat × Value)} {st : List Value} {β : Type} {res : β} (hC : Cx X cc "ConicDesk" L) (hin : (xh X).name = "<init>") {k j index : Nat} {f : Rho → Option β} (hsh : Sh n k 10) (hj : Sh n j 3) (hw : Cond.fieldLink "ConicDesk" index "ConicDesk" "now" "LConicDesk$Moment;" ∈ lw_g) (d : decode cc pc = .ok (.putfield index, 3)) (e : q = pc) (hM : bn (ru ρ k 0 (some j)) f = some res) (kk : ∀ ρ', f ρ' = some res → G X cs ss n σ ρ' (pc + 3) lv st) : G X cs ss n σ ρ q lv (vr X j :: vr X k :: st) :=
  g_putr (T := TX11) (i := 0) (ty := tyX11) hC hin hsh hj rfl rfl iX11 tyX11_ok nmX11 (by decide) (fun a => ⟨rfl, rfl⟩) rfl hw rfl rfl d e hM kk
theorem fp_10_1 {X : CX} {cc : ByteArray} {own : String} {L cs ss n pc q : Nat} {σ : Sto} {ρ : Rho} {lv : List (Nat × Value)} {st : List Value} {β : Type} {res : β} (hC : Cx X cc "ConicDesk" L) (hin : (xh X).name = "<init>") {k j index : Nat} {f : Rho → Option β} (hsh : Sh n k 10) (hj : Sh n j 4) (hw : Cond.fieldLink "ConicDesk" index "ConicDesk" "past" "LConicDesk$Past;" ∈ lw_g) (d : decode cc pc = .ok (.putfield index, 3)) (e : q = pc) (hM : bn (ru ρ k 1 (some j)) f = some res) (kk : ∀ ρ', f ρ' = some res → G X cs ss n σ ρ' (pc + 3) lv st) : G X cs ss n σ ρ q lv (vr X j :: vr X k :: st) :=
  g_putr (T := TX11) (i := 1) (ty := tyX11) hC hin hsh hj rfl rfl iX11 tyX11_ok nmX11 (by decide) (fun a => ⟨rfl, rfl⟩) rfl hw rfl rfl d e hM kk
theorem fp_10_10 {X : CX} {cc : ByteArray} {own : String} {L cs ss n pc q : Nat} {σ : Sto} {ρ : Rho} {lv : List (Nat × Value)} {st : List Value} {β : Type} {res : β} (hC : Cx X cc "ConicDesk" L) (hin : (xh X).name = "<init>") {k j index : Nat} {f : Rho → Option β} (hsh : Sh n k 10) (hj : Sh n j 2) (hw : Cond.fieldLink "ConicDesk" index "ConicDesk" "otherForm" "LConicDesk$Form;" ∈ lw_g) (d : decode cc pc = .ok (.putfield index, 3)) (e : q = pc) (hM : bn (ru ρ k 10 (some j)) f = some res) (kk : ∀ ρ', f ρ' = some res → G X cs ss n σ ρ' (pc + 3) lv st) : G X cs ss n σ ρ q lv (vr X j :: vr X k :: st) :=
  g_putr (T := TX11) (i := 10) (ty := tyX11) hC hin hsh hj rfl rfl iX11 tyX11_ok nmX11 (by decide) (fun a => ⟨rfl, rfl⟩) rfl hw rfl rfl d e hM kk
theorem fp_10_11 {X : CX} {cc : ByteArray} {own : String} {L cs ss n pc q : Nat} {σ : Sto} {ρ : Rho} {lv : List (Nat × Value)} {st : List Value} {β : Type} {res : β} (hC : Cx X cc "ConicDesk" L) (hin : (xh X).name = "<init>") {k j index : Nat} {f : Rho → Option β} (hsh : Sh n k 10) (hj : Sh n j 9) (hw : Cond.fieldLink "ConicDesk" index "ConicDesk" "spot" "LConicDesk$Triple;" ∈ lw_g) (d : decode cc pc = .ok (.putfield index, 3)) (e : q = pc) (hM : bn (ru ρ k 11 (some j)) f = some res) (kk : ∀ ρ', f ρ' = some res → G X cs ss n σ ρ' (pc + 3) lv st) : G X cs ss n σ ρ q lv (vr X j :: vr X k :: st) :=
  g_putr (T := TX11) (i := 11) (ty := tyX11) hC hin hsh hj rfl rfl iX11 tyX11_ok nmX11 (by decide) (fun a => ⟨rfl, rfl⟩) rfl hw rfl rfl d e hM kk
theorem fp_10_12 {X : CX} {cc : ByteArray} {own : String} {L cs ss n pc q : Nat} {σ : Sto} {ρ : Rho} {lv : List (Nat × Value)} {st : List Value} {β : Type} {res : β} (hC : Cx X cc "ConicDesk" L) (hin : (xh X).name = "<init>") {k j index : Nat} {f : Rho → Option β} (hsh : Sh n k 10) (hj : Sh n j 9) (hw : Cond.fieldLink "ConicDesk" index "ConicDesk" "otherSpot" "LConicDesk$Triple;" ∈ lw_g) (d : decode cc pc = .ok (.putfield index, 3)) (e : q = pc) (hM : bn (ru ρ k 12 (some j)) f = some res) (kk : ∀ ρ', f ρ' = some res → G X cs ss n σ ρ' (pc + 3) lv st) : G X cs ss n σ ρ q lv (vr X j :: vr X k :: st) :=
  g_putr (T := TX11) (i := 12) (ty := tyX11) hC hin hsh hj rfl rfl iX11 tyX11_ok nmX11 (by decide) (fun a => ⟨rfl, rfl⟩) rfl hw rfl rfl d e hM kk
theorem fp_10_13 {X : CX} {cc : ByteArray} {own : String} {L cs ss n pc q : Nat} {σ : Sto} {ρ : Rho} {lv : List (Nat × Value)} {st : List Value} {β : Type} {res : β} (hC : Cx X cc "ConicDesk" L) (hin : (xh X).name = "<init>") {k j index : Nat} {f : Rho → Option β} (hsh : Sh n k 10) (hj : Sh n j 9) (hw : Cond.fieldLink "ConicDesk" index "ConicDesk" "edge" "LConicDesk$Triple;" ∈ lw_g) (d : decode cc pc = .ok (.putfield index, 3)) (e : q = pc) (hM : bn (ru ρ k 13 (some j)) f = some res) (kk : ∀ ρ', f ρ' = some res → G X cs ss n σ ρ' (pc + 3) lv st) : G X cs ss n σ ρ q lv (vr X j :: vr X k :: st) :=
  g_putr (T := TX11) (i := 13) (ty := tyX11) hC hin hsh hj rfl rfl iX11 tyX11_ok nmX11 (by decide) (fun a => ⟨rfl, rfl⟩) rfl hw rfl rfl d e hM kk
theorem fp_10_2 {X : CX} {cc : ByteArray} {own : String} {L cs ss n pc q : Nat} {σ : Sto} {ρ : Rho} {lv : List (Nat × Value)} {st : List Value} {β : Type} {res : β} (hC : Cx X cc "ConicDesk" L) (hin : (xh X).name = "<init>") {k j index : Nat} {f : Rho → Option β} (hsh : Sh n k 10) (hj : Sh n j 25) (hw : Cond.fieldLink "ConicDesk" index "ConicDesk" "images" "[LConicDesk$Moment;" ∈ lw_g) (d : decode cc pc = .ok (.putfield index, 3)) (e : q = pc) (hM : bn (ru ρ k 2 (some j)) f = some res) (kk : ∀ ρ', f ρ' = some res → G X cs ss n σ ρ' (pc + 3) lv st) : G X cs ss n σ ρ q lv (vr X j :: vr X k :: st) :=
  g_putr (T := TX11) (i := 2) (ty := tyX11) hC hin hsh hj rfl rfl iX11 tyX11_ok nmX11 (by decide) (fun a => ⟨rfl, rfl⟩) rfl hw rfl rfl d e hM kk
theorem fp_10_3 {X : CX} {cc : ByteArray} {own : String} {L cs ss n pc q : Nat} {σ : Sto} {ρ : Rho} {lv : List (Nat × Value)} {st : List Value} {β : Type} {res : β} (hC : Cx X cc "ConicDesk" L) (hin : (xh X).name = "<init>") {k j index : Nat} {f : Rho → Option β} (hsh : Sh n k 10) (hj : Sh n j 22) (hw : Cond.fieldLink "ConicDesk" index "ConicDesk" "taken" "[Z" ∈ lw_g) (d : decode cc pc = .ok (.putfield index, 3)) (e : q = pc) (hM : bn (ru ρ k 3 (some j)) f = some res) (kk : ∀ ρ', f ρ' = some res → G X cs ss n σ ρ' (pc + 3) lv st) : G X cs ss n σ ρ q lv (vr X j :: vr X k :: st) :=
  g_putr (T := TX11) (i := 3) (ty := tyX11) hC hin hsh hj rfl rfl iX11 tyX11_ok nmX11 (by decide) (fun a => ⟨rfl, rfl⟩) rfl hw rfl rfl d e hM kk
theorem fp_10_4 {X : CX} {cc : ByteArray} {own : String} {L cs ss n pc q : Nat} {σ : Sto} {ρ : Rho} {lv : List (Nat × Value)} {st : List Value} {β : Type} {res : β} (hC : Cx X cc "ConicDesk" L) (hin : (xh X).name = "<init>") {k j index : Nat} {f : Rho → Option β} (hsh : Sh n k 10) (hj : Sh n j 6) (hw : Cond.fieldLink "ConicDesk" index "ConicDesk" "reader" "LConicDesk$Reader;" ∈ lw_g) (d : decode cc pc = .ok (.putfield index, 3)) (e : q = pc) (hM : bn (ru ρ k 4 (some j)) f = some res) (kk : ∀ ρ', f ρ' = some res → G X cs ss n σ ρ' (pc + 3) lv st) : G X cs ss n σ ρ q lv (vr X j :: vr X k :: st) :=
  g_putr (T := TX11) (i := 4) (ty := tyX11) hC hin hsh hj rfl rfl iX11 tyX11_ok nmX11 (by decide) (fun a => ⟨rfl, rfl⟩) rfl hw rfl rfl d e hM kk
theorem fp_10_5 {X : CX} {cc : ByteArray} {own : String} {L cs ss n pc q : Nat} {σ : Sto} {ρ : Rho} {lv : List (Nat × Value)} {st : List Value} {β : Type} {res : β} (hC : Cx X cc "ConicDesk" L) (hin : (xh X).name = "<init>") {k j index : Nat} {f : Rho → Option β} (hsh : Sh n k 10) (hj : Sh n j 5) (hw : Cond.fieldLink "ConicDesk" index "ConicDesk" "bundle" "LConicDesk$Pencil;" ∈ lw_g) (d : decode cc pc = .ok (.putfield index, 3)) (e : q = pc) (hM : bn (ru ρ k 5 (some j)) f = some res) (kk : ∀ ρ', f ρ' = some res → G X cs ss n σ ρ' (pc + 3) lv st) : G X cs ss n σ ρ q lv (vr X j :: vr X k :: st) :=
  g_putr (T := TX11) (i := 5) (ty := tyX11) hC hin hsh hj rfl rfl iX11 tyX11_ok nmX11 (by decide) (fun a => ⟨rfl, rfl⟩) rfl hw rfl rfl d e hM kk
theorem fp_10_6 {X : CX} {cc : ByteArray} {own : String} {L cs ss n pc q : Nat} {σ : Sto} {ρ : Rho} {lv : List (Nat × Value)} {st : List Value} {β : Type} {res : β} (hC : Cx X cc "ConicDesk" L) (hin : (xh X).name = "<init>") {k j index : Nat} {f : Rho → Option β} (hsh : Sh n k 10) (hj : Sh n j 1) (hw : Cond.fieldLink "ConicDesk" index "ConicDesk" "family" "LConicDesk$Family;" ∈ lw_g) (d : decode cc pc = .ok (.putfield index, 3)) (e : q = pc) (hM : bn (ru ρ k 6 (some j)) f = some res) (kk : ∀ ρ', f ρ' = some res → G X cs ss n σ ρ' (pc + 3) lv st) : G X cs ss n σ ρ q lv (vr X j :: vr X k :: st) :=
  g_putr (T := TX11) (i := 6) (ty := tyX11) hC hin hsh hj rfl rfl iX11 tyX11_ok nmX11 (by decide) (fun a => ⟨rfl, rfl⟩) rfl hw rfl rfl d e hM kk
theorem fp_10_7 {X : CX} {cc : ByteArray} {own : String} {L cs ss n pc q : Nat} {σ : Sto} {ρ : Rho} {lv : List (Nat × Value)} {st : List Value} {β : Type} {res : β} (hC : Cx X cc "ConicDesk" L) (hin : (xh X).name = "<init>") {k j index : Nat} {f : Rho → Option β} (hsh : Sh n k 10) (hj : Sh n j 0) (hw : Cond.fieldLink "ConicDesk" index "ConicDesk" "curve" "LConicDesk$Curve;" ∈ lw_g) (d : decode cc pc = .ok (.putfield index, 3)) (e : q = pc) (hM : bn (ru ρ k 7 (some j)) f = some res) (kk : ∀ ρ', f ρ' = some res → G X cs ss n σ ρ' (pc + 3) lv st) : G X cs ss n σ ρ q lv (vr X j :: vr X k :: st) :=
  g_putr (T := TX11) (i := 7) (ty := tyX11) hC hin hsh hj rfl rfl iX11 tyX11_ok nmX11 (by decide) (fun a => ⟨rfl, rfl⟩) rfl hw rfl rfl d e hM kk
theorem fp_10_8 {X : CX} {cc : ByteArray} {own : String} {L cs ss n pc q : Nat} {σ : Sto} {ρ : Rho} {lv : List (Nat × Value)} {st : List Value} {β : Type} {res : β} (hC : Cx X cc "ConicDesk" L) (hin : (xh X).name = "<init>") {k j index : Nat} {f : Rho → Option β} (hsh : Sh n k 10) (hj : Sh n j 0) (hw : Cond.fieldLink "ConicDesk" index "ConicDesk" "dual" "LConicDesk$Curve;" ∈ lw_g) (d : decode cc pc = .ok (.putfield index, 3)) (e : q = pc) (hM : bn (ru ρ k 8 (some j)) f = some res) (kk : ∀ ρ', f ρ' = some res → G X cs ss n σ ρ' (pc + 3) lv st) : G X cs ss n σ ρ q lv (vr X j :: vr X k :: st) :=
  g_putr (T := TX11) (i := 8) (ty := tyX11) hC hin hsh hj rfl rfl iX11 tyX11_ok nmX11 (by decide) (fun a => ⟨rfl, rfl⟩) rfl hw rfl rfl d e hM kk
theorem fp_10_9 {X : CX} {cc : ByteArray} {own : String} {L cs ss n pc q : Nat} {σ : Sto} {ρ : Rho} {lv : List (Nat × Value)} {st : List Value} {β : Type} {res : β} (hC : Cx X cc "ConicDesk" L) (hin : (xh X).name = "<init>") {k j index : Nat} {f : Rho → Option β} (hsh : Sh n k 10) (hj : Sh n j 2) (hw : Cond.fieldLink "ConicDesk" index "ConicDesk" "form" "LConicDesk$Form;" ∈ lw_g) (d : decode cc pc = .ok (.putfield index, 3)) (e : q = pc) (hM : bn (ru ρ k 9 (some j)) f = some res) (kk : ∀ ρ', f ρ' = some res → G X cs ss n σ ρ' (pc + 3) lv st) : G X cs ss n σ ρ q lv (vr X j :: vr X k :: st) :=
  g_putr (T := TX11) (i := 9) (ty := tyX11) hC hin hsh hj rfl rfl iX11 tyX11_ok nmX11 (by decide) (fun a => ⟨rfl, rfl⟩) rfl hw rfl rfl d e hM kk
theorem fp_11_0 {X : CX} {cc : ByteArray} {own : String} {L cs ss n pc q : Nat} {σ : Sto} {ρ : Rho} {lv : List (Nat × Value)} {st : List Value} {β : Type} {res : β} (hC : Cx X cc "ConicDeskModel" L) (hin : (xh X).name = "<init>") {k j index : Nat} {f : Rho → Option β} (hsh : Sh n k 11) (hj : Sh n j 20) (hw : Cond.fieldLink "ConicDeskModel" index "ConicDeskModel" "all" "[I" ∈ lw_g) (d : decode cc pc = .ok (.putfield index, 3)) (e : q = pc) (hM : bn (ru ρ k 0 (some j)) f = some res) (kk : ∀ ρ', f ρ' = some res → G X cs ss n σ ρ' (pc + 3) lv st) : G X cs ss n σ ρ q lv (vr X j :: vr X k :: st) :=
  g_putr (T := TX12) (i := 0) (ty := tyX12) hC hin hsh hj rfl rfl iX12 tyX12_ok nmX12 (by decide) (fun a => ⟨rfl, rfl⟩) rfl hw rfl rfl d e hM kk
theorem fp_11_1 {X : CX} {cc : ByteArray} {own : String} {L cs ss n pc q : Nat} {σ : Sto} {ρ : Rho} {lv : List (Nat × Value)} {st : List Value} {β : Type} {res : β} (hC : Cx X cc "ConicDeskModel" L) (hin : (xh X).name = "<init>") {k j index : Nat} {f : Rho → Option β} (hsh : Sh n k 11) (hj : Sh n j 20) (hw : Cond.fieldLink "ConicDeskModel" index "ConicDeskModel" "tape" "[I" ∈ lw_g) (d : decode cc pc = .ok (.putfield index, 3)) (e : q = pc) (hM : bn (ru ρ k 1 (some j)) f = some res) (kk : ∀ ρ', f ρ' = some res → G X cs ss n σ ρ' (pc + 3) lv st) : G X cs ss n σ ρ q lv (vr X j :: vr X k :: st) :=
  g_putr (T := TX12) (i := 1) (ty := tyX12) hC hin hsh hj rfl rfl iX12 tyX12_ok nmX12 (by decide) (fun a => ⟨rfl, rfl⟩) rfl hw rfl rfl d e hM kk
theorem fp_11_10 {X : CX} {cc : ByteArray} {own : String} {L cs ss n pc q : Nat} {σ : Sto} {ρ : Rho} {lv : List (Nat × Value)} {st : List Value} {β : Type} {res : β} (hC : Cx X cc own L) {k index : Nat} {x : Int32} {f : Sto → Option β} (hsh : Sh n k 11) (hw : Cond.fieldLink own index "ConicDeskModel" "pz" "I" ∈ lw_g) (d : decode cc pc = .ok (.putfield index, 3)) (e : q = pc) (hM : bn (su σ k 10 x) f = some res) (kk : ∀ σ', f σ' = some res → G X cs ss n σ' ρ (pc + 3) lv st) : G X cs ss n σ ρ q lv (.int x :: vr X k :: st) :=
  g_puti (T := TX12) (i := 10) hC hsh rfl iX12 tyX12_ok nmX12 (by decide) rfl rfl hw rfl d e hM kk
theorem fp_11_11 {X : CX} {cc : ByteArray} {own : String} {L cs ss n pc q : Nat} {σ : Sto} {ρ : Rho} {lv : List (Nat × Value)} {st : List Value} {β : Type} {res : β} (hC : Cx X cc "ConicDeskModel" L) (hin : (xh X).name = "<init>") {k j index : Nat} {f : Rho → Option β} (hsh : Sh n k 11) (hj : Sh n j 20) (hw : Cond.fieldLink "ConicDeskModel" index "ConicDeskModel" "m" "[I" ∈ lw_g) (d : decode cc pc = .ok (.putfield index, 3)) (e : q = pc) (hM : bn (ru ρ k 11 (some j)) f = some res) (kk : ∀ ρ', f ρ' = some res → G X cs ss n σ ρ' (pc + 3) lv st) : G X cs ss n σ ρ q lv (vr X j :: vr X k :: st) :=
  g_putr (T := TX12) (i := 11) (ty := tyX12) hC hin hsh hj rfl rfl iX12 tyX12_ok nmX12 (by decide) (fun a => ⟨rfl, rfl⟩) rfl hw rfl rfl d e hM kk
theorem fp_11_12 {X : CX} {cc : ByteArray} {own : String} {L cs ss n pc q : Nat} {σ : Sto} {ρ : Rho} {lv : List (Nat × Value)} {st : List Value} {β : Type} {res : β} (hC : Cx X cc "ConicDeskModel" L) (hin : (xh X).name = "<init>") {k j index : Nat} {f : Rho → Option β} (hsh : Sh n k 11) (hj : Sh n j 20) (hw : Cond.fieldLink "ConicDeskModel" index "ConicDeskModel" "row" "[I" ∈ lw_g) (d : decode cc pc = .ok (.putfield index, 3)) (e : q = pc) (hM : bn (ru ρ k 12 (some j)) f = some res) (kk : ∀ ρ', f ρ' = some res → G X cs ss n σ ρ' (pc + 3) lv st) : G X cs ss n σ ρ q lv (vr X j :: vr X k :: st) :=
  g_putr (T := TX12) (i := 12) (ty := tyX12) hC hin hsh hj rfl rfl iX12 tyX12_ok nmX12 (by decide) (fun a => ⟨rfl, rfl⟩) rfl hw rfl rfl d e hM kk
theorem fp_11_13 {X : CX} {cc : ByteArray} {own : String} {L cs ss n pc q : Nat} {σ : Sto} {ρ : Rho} {lv : List (Nat × Value)} {st : List Value} {β : Type} {res : β} (hC : Cx X cc "ConicDeskModel" L) (hin : (xh X).name = "<init>") {k j index : Nat} {f : Rho → Option β} (hsh : Sh n k 11) (hj : Sh n j 20) (hw : Cond.fieldLink "ConicDeskModel" index "ConicDeskModel" "its" "[I" ∈ lw_g) (d : decode cc pc = .ok (.putfield index, 3)) (e : q = pc) (hM : bn (ru ρ k 13 (some j)) f = some res) (kk : ∀ ρ', f ρ' = some res → G X cs ss n σ ρ' (pc + 3) lv st) : G X cs ss n σ ρ q lv (vr X j :: vr X k :: st) :=
  g_putr (T := TX12) (i := 13) (ty := tyX12) hC hin hsh hj rfl rfl iX12 tyX12_ok nmX12 (by decide) (fun a => ⟨rfl, rfl⟩) rfl hw rfl rfl d e hM kk
theorem fp_11_14 {X : CX} {cc : ByteArray} {own : String} {L cs ss n pc q : Nat} {σ : Sto} {ρ : Rho} {lv : List (Nat × Value)} {st : List Value} {β : Type} {res : β} (hC : Cx X cc own L) {k index : Nat} {x : Int32} {f : Sto → Option β} (hsh : Sh n k 11) (hw : Cond.fieldLink own index "ConicDeskModel" "size0" "I" ∈ lw_g) (d : decode cc pc = .ok (.putfield index, 3)) (e : q = pc) (hM : bn (su σ k 14 x) f = some res) (kk : ∀ σ', f σ' = some res → G X cs ss n σ' ρ (pc + 3) lv st) : G X cs ss n σ ρ q lv (.int x :: vr X k :: st) :=
  g_puti (T := TX12) (i := 14) hC hsh rfl iX12 tyX12_ok nmX12 (by decide) rfl rfl hw rfl d e hM kk
theorem fp_11_15 {X : CX} {cc : ByteArray} {own : String} {L cs ss n pc q : Nat} {σ : Sto} {ρ : Rho} {lv : List (Nat × Value)} {st : List Value} {β : Type} {res : β} (hC : Cx X cc own L) {k index : Nat} {x : Int32} {f : Sto → Option β} (hsh : Sh n k 11) (hw : Cond.fieldLink own index "ConicDeskModel" "next" "I" ∈ lw_g) (d : decode cc pc = .ok (.putfield index, 3)) (e : q = pc) (hM : bn (su σ k 15 x) f = some res) (kk : ∀ σ', f σ' = some res → G X cs ss n σ' ρ (pc + 3) lv st) : G X cs ss n σ ρ q lv (.int x :: vr X k :: st) :=
  g_puti (T := TX12) (i := 15) hC hsh rfl iX12 tyX12_ok nmX12 (by decide) rfl rfl hw rfl d e hM kk
theorem fp_11_16 {X : CX} {cc : ByteArray} {own : String} {L cs ss n pc q : Nat} {σ : Sto} {ρ : Rho} {lv : List (Nat × Value)} {st : List Value} {β : Type} {res : β} (hC : Cx X cc own L) {k index : Nat} {x : Int32} {f : Sto → Option β} (hsh : Sh n k 11) (hw : Cond.fieldLink own index "ConicDeskModel" "token" "I" ∈ lw_g) (d : decode cc pc = .ok (.putfield index, 3)) (e : q = pc) (hM : bn (su σ k 16 x) f = some res) (kk : ∀ σ', f σ' = some res → G X cs ss n σ' ρ (pc + 3) lv st) : G X cs ss n σ ρ q lv (.int x :: vr X k :: st) :=
  g_puti (T := TX12) (i := 16) hC hsh rfl iX12 tyX12_ok nmX12 (by decide) rfl rfl hw rfl d e hM kk
theorem fp_11_17 {X : CX} {cc : ByteArray} {own : String} {L cs ss n pc q : Nat} {σ : Sto} {ρ : Rho} {lv : List (Nat × Value)} {st : List Value} {β : Type} {res : β} (hC : Cx X cc own L) {k index : Nat} {x : Int32} {f : Sto → Option β} (hsh : Sh n k 11) (hw : Cond.fieldLink own index "ConicDeskModel" "place" "I" ∈ lw_g) (d : decode cc pc = .ok (.putfield index, 3)) (e : q = pc) (hM : bn (su σ k 17 x) f = some res) (kk : ∀ σ', f σ' = some res → G X cs ss n σ' ρ (pc + 3) lv st) : G X cs ss n σ ρ q lv (.int x :: vr X k :: st) :=
  g_puti (T := TX12) (i := 17) hC hsh rfl iX12 tyX12_ok nmX12 (by decide) rfl rfl hw rfl d e hM kk
theorem fp_11_18 {X : CX} {cc : ByteArray} {own : String} {L cs ss n pc q : Nat} {σ : Sto} {ρ : Rho} {lv : List (Nat × Value)} {st : List Value} {β : Type} {res : β} (hC : Cx X cc own L) {k index : Nat} {x : Int64} {f : Sto → Option β} (hsh : Sh n k 11) (hw : Cond.fieldLink own index "ConicDeskModel" "value" "J" ∈ lw_g) (d : decode cc pc = .ok (.putfield index, 3)) (e : q = pc) (hM : bn (su (su σ k 18 (jlo x)) k 1018 (jhi x)) f = some res) (kk : ∀ σ', f σ' = some res → G X cs ss n σ' ρ (pc + 3) lv st) : G X cs ss n σ ρ q lv (.long x :: vr X k :: st) :=
  g_putj (T := TX12) (i := 18) hC hsh rfl iX12 tyX12_ok nmX12 (by decide) rfl rfl hw rfl d e hM kk
theorem fp_11_19 {X : CX} {cc : ByteArray} {own : String} {L cs ss n pc q : Nat} {σ : Sto} {ρ : Rho} {lv : List (Nat × Value)} {st : List Value} {β : Type} {res : β} (hC : Cx X cc "ConicDeskModel" L) (hin : (xh X).name = "<init>") {k j index : Nat} {f : Rho → Option β} (hsh : Sh n k 11) (hj : Sh n j 20) (hw : Cond.fieldLink "ConicDeskModel" index "ConicDeskModel" "six" "[I" ∈ lw_g) (d : decode cc pc = .ok (.putfield index, 3)) (e : q = pc) (hM : bn (ru ρ k 19 (some j)) f = some res) (kk : ∀ ρ', f ρ' = some res → G X cs ss n σ ρ' (pc + 3) lv st) : G X cs ss n σ ρ q lv (vr X j :: vr X k :: st) :=
  g_putr (T := TX12) (i := 19) (ty := tyX12) hC hin hsh hj rfl rfl iX12 tyX12_ok nmX12 (by decide) (fun a => ⟨rfl, rfl⟩) rfl hw rfl rfl d e hM kk
theorem fp_11_2 {X : CX} {cc : ByteArray} {own : String} {L cs ss n pc q : Nat} {σ : Sto} {ρ : Rho} {lv : List (Nat × Value)} {st : List Value} {β : Type} {res : β} (hC : Cx X cc "ConicDeskModel" L) (hin : (xh X).name = "<init>") {k j index : Nat} {f : Rho → Option β} (hsh : Sh n k 11) (hj : Sh n j 22) (hw : Cond.fieldLink "ConicDeskModel" index "ConicDeskModel" "isImage" "[Z" ∈ lw_g) (d : decode cc pc = .ok (.putfield index, 3)) (e : q = pc) (hM : bn (ru ρ k 2 (some j)) f = some res) (kk : ∀ ρ', f ρ' = some res → G X cs ss n σ ρ' (pc + 3) lv st) : G X cs ss n σ ρ q lv (vr X j :: vr X k :: st) :=
  g_putr (T := TX12) (i := 2) (ty := tyX12) hC hin hsh hj rfl rfl iX12 tyX12_ok nmX12 (by decide) (fun a => ⟨rfl, rfl⟩) rfl hw rfl rfl d e hM kk
theorem fp_11_3 {X : CX} {cc : ByteArray} {own : String} {L cs ss n pc q : Nat} {σ : Sto} {ρ : Rho} {lv : List (Nat × Value)} {st : List Value} {β : Type} {res : β} (hC : Cx X cc own L) {k index : Nat} {x : Int32} {f : Sto → Option β} (hsh : Sh n k 11) (hw : Cond.fieldLink own index "ConicDeskModel" "taped" "I" ∈ lw_g) (d : decode cc pc = .ok (.putfield index, 3)) (e : q = pc) (hM : bn (su σ k 3 x) f = some res) (kk : ∀ σ', f σ' = some res → G X cs ss n σ' ρ (pc + 3) lv st) : G X cs ss n σ ρ q lv (.int x :: vr X k :: st) :=
  g_puti (T := TX12) (i := 3) hC hsh rfl iX12 tyX12_ok nmX12 (by decide) rfl rfl hw rfl d e hM kk
theorem fp_11_4 {X : CX} {cc : ByteArray} {own : String} {L cs ss n pc q : Nat} {σ : Sto} {ρ : Rho} {lv : List (Nat × Value)} {st : List Value} {β : Type} {res : β} (hC : Cx X cc own L) {k index : Nat} {x : Int32} {f : Sto → Option β} (hsh : Sh n k 11) (hw : Cond.fieldLink own index "ConicDeskModel" "faultKind" "I" ∈ lw_g) (d : decode cc pc = .ok (.putfield index, 3)) (e : q = pc) (hM : bn (su σ k 4 x) f = some res) (kk : ∀ σ', f σ' = some res → G X cs ss n σ' ρ (pc + 3) lv st) : G X cs ss n σ ρ q lv (.int x :: vr X k :: st) :=
  g_puti (T := TX12) (i := 4) hC hsh rfl iX12 tyX12_ok nmX12 (by decide) rfl rfl hw rfl d e hM kk
theorem fp_11_5 {X : CX} {cc : ByteArray} {own : String} {L cs ss n pc q : Nat} {σ : Sto} {ρ : Rho} {lv : List (Nat × Value)} {st : List Value} {β : Type} {res : β} (hC : Cx X cc own L) {k index : Nat} {x : Int32} {f : Sto → Option β} (hsh : Sh n k 11) (hw : Cond.fieldLink own index "ConicDeskModel" "faultPlace" "I" ∈ lw_g) (d : decode cc pc = .ok (.putfield index, 3)) (e : q = pc) (hM : bn (su σ k 5 x) f = some res) (kk : ∀ σ', f σ' = some res → G X cs ss n σ' ρ (pc + 3) lv st) : G X cs ss n σ ρ q lv (.int x :: vr X k :: st) :=
  g_puti (T := TX12) (i := 5) hC hsh rfl iX12 tyX12_ok nmX12 (by decide) rfl rfl hw rfl d e hM kk
theorem fp_11_6 {X : CX} {cc : ByteArray} {own : String} {L cs ss n pc q : Nat} {σ : Sto} {ρ : Rho} {lv : List (Nat × Value)} {st : List Value} {β : Type} {res : β} (hC : Cx X cc own L) {k index : Nat} {x : Int32} {f : Sto → Option β} (hsh : Sh n k 11) (hw : Cond.fieldLink own index "ConicDeskModel" "undos" "I" ∈ lw_g) (d : decode cc pc = .ok (.putfield index, 3)) (e : q = pc) (hM : bn (su σ k 6 x) f = some res) (kk : ∀ σ', f σ' = some res → G X cs ss n σ' ρ (pc + 3) lv st) : G X cs ss n σ ρ q lv (.int x :: vr X k :: st) :=
  g_puti (T := TX12) (i := 6) hC hsh rfl iX12 tyX12_ok nmX12 (by decide) rfl rfl hw rfl d e hM kk
theorem fp_11_7 {X : CX} {cc : ByteArray} {own : String} {L cs ss n pc q : Nat} {σ : Sto} {ρ : Rho} {lv : List (Nat × Value)} {st : List Value} {β : Type} {res : β} (hC : Cx X cc own L) {k index : Nat} {x : Int32} {f : Sto → Option β} (hsh : Sh n k 11) (hw : Cond.fieldLink own index "ConicDeskModel" "p" "I" ∈ lw_g) (d : decode cc pc = .ok (.putfield index, 3)) (e : q = pc) (hM : bn (su σ k 7 x) f = some res) (kk : ∀ σ', f σ' = some res → G X cs ss n σ' ρ (pc + 3) lv st) : G X cs ss n σ ρ q lv (.int x :: vr X k :: st) :=
  g_puti (T := TX12) (i := 7) hC hsh rfl iX12 tyX12_ok nmX12 (by decide) rfl rfl hw rfl d e hM kk
theorem fp_11_8 {X : CX} {cc : ByteArray} {own : String} {L cs ss n pc q : Nat} {σ : Sto} {ρ : Rho} {lv : List (Nat × Value)} {st : List Value} {β : Type} {res : β} (hC : Cx X cc own L) {k index : Nat} {x : Int32} {f : Sto → Option β} (hsh : Sh n k 11) (hw : Cond.fieldLink own index "ConicDeskModel" "px" "I" ∈ lw_g) (d : decode cc pc = .ok (.putfield index, 3)) (e : q = pc) (hM : bn (su σ k 8 x) f = some res) (kk : ∀ σ', f σ' = some res → G X cs ss n σ' ρ (pc + 3) lv st) : G X cs ss n σ ρ q lv (.int x :: vr X k :: st) :=
  g_puti (T := TX12) (i := 8) hC hsh rfl iX12 tyX12_ok nmX12 (by decide) rfl rfl hw rfl d e hM kk
theorem fp_11_9 {X : CX} {cc : ByteArray} {own : String} {L cs ss n pc q : Nat} {σ : Sto} {ρ : Rho} {lv : List (Nat × Value)} {st : List Value} {β : Type} {res : β} (hC : Cx X cc own L) {k index : Nat} {x : Int32} {f : Sto → Option β} (hsh : Sh n k 11) (hw : Cond.fieldLink own index "ConicDeskModel" "py" "I" ∈ lw_g) (d : decode cc pc = .ok (.putfield index, 3)) (e : q = pc) (hM : bn (su σ k 9 x) f = some res) (kk : ∀ σ', f σ' = some res → G X cs ss n σ' ρ (pc + 3) lv st) : G X cs ss n σ ρ q lv (.int x :: vr X k :: st) :=
  g_puti (T := TX12) (i := 9) hC hsh rfl iX12 tyX12_ok nmX12 (by decide) rfl rfl hw rfl d e hM kk
theorem fp_1_0 {X : CX} {cc : ByteArray} {own : String} {L cs ss n pc q : Nat} {σ : Sto} {ρ : Rho} {lv : List (Nat × Value)} {st : List Value} {β : Type} {res : β} (hC : Cx X cc "ConicDesk$Family" L) (hin : (xh X).name = "<init>") {k j index : Nat} {f : Rho → Option β} (hsh : Sh n k 1) (hj : Sh n j 23) (hw : Cond.fieldLink "ConicDesk$Family" index "ConicDesk$Family" "base" "[LConicDesk$Curve;" ∈ lw_g) (d : decode cc pc = .ok (.putfield index, 3)) (e : q = pc) (hM : bn (ru ρ k 0 (some j)) f = some res) (kk : ∀ ρ', f ρ' = some res → G X cs ss n σ ρ' (pc + 3) lv st) : G X cs ss n σ ρ q lv (vr X j :: vr X k :: st) :=
  g_putr (T := TX1) (i := 0) (ty := tyX1) hC hin hsh hj rfl rfl iX1 tyX1_ok nmX1 (by decide) (fun a => ⟨rfl, rfl⟩) rfl hw rfl rfl d e hM kk
theorem fp_1_1 {X : CX} {cc : ByteArray} {own : String} {L cs ss n pc q : Nat} {σ : Sto} {ρ : Rho} {lv : List (Nat × Value)} {st : List Value} {β : Type} {res : β} (hC : Cx X cc "ConicDesk$Family" L) (hin : (xh X).name = "<init>") {k j index : Nat} {f : Rho → Option β} (hsh : Sh n k 1) (hj : Sh n j 9) (hw : Cond.fieldLink "ConicDesk$Family" index "ConicDesk$Family" "spot" "LConicDesk$Triple;" ∈ lw_g) (d : decode cc pc = .ok (.putfield index, 3)) (e : q = pc) (hM : bn (ru ρ k 1 (some j)) f = some res) (kk : ∀ ρ', f ρ' = some res → G X cs ss n σ ρ' (pc + 3) lv st) : G X cs ss n σ ρ q lv (vr X j :: vr X k :: st) :=
  g_putr (T := TX1) (i := 1) (ty := tyX1) hC hin hsh hj rfl rfl iX1 tyX1_ok nmX1 (by decide) (fun a => ⟨rfl, rfl⟩) rfl hw rfl rfl d e hM kk
theorem fp_1_2 {X : CX} {cc : ByteArray} {own : String} {L cs ss n pc q : Nat} {σ : Sto} {ρ : Rho} {lv : List (Nat × Value)} {st : List Value} {β : Type} {res : β} (hC : Cx X cc own L) {k index : Nat} {x : Int32} {f : Sto → Option β} (hsh : Sh n k 1) (hw : Cond.fieldLink own index "ConicDesk$Family" "free" "I" ∈ lw_g) (d : decode cc pc = .ok (.putfield index, 3)) (e : q = pc) (hM : bn (su σ k 2 x) f = some res) (kk : ∀ σ', f σ' = some res → G X cs ss n σ' ρ (pc + 3) lv st) : G X cs ss n σ ρ q lv (.int x :: vr X k :: st) :=
  g_puti (T := TX1) (i := 2) hC hsh rfl iX1 tyX1_ok nmX1 (by decide) rfl rfl hw rfl d e hM kk
theorem fp_2_0 {X : CX} {cc : ByteArray} {own : String} {L cs ss n pc q : Nat} {σ : Sto} {ρ : Rho} {lv : List (Nat × Value)} {st : List Value} {β : Type} {res : β} (hC : Cx X cc own L) {k index : Nat} {x : Int32} {f : Sto → Option β} (hsh : Sh n k 2) (hw : Cond.fieldLink own index "ConicDesk$Form" "a" "I" ∈ lw_g) (d : decode cc pc = .ok (.putfield index, 3)) (e : q = pc) (hM : bn (su σ k 0 x) f = some res) (kk : ∀ σ', f σ' = some res → G X cs ss n σ' ρ (pc + 3) lv st) : G X cs ss n σ ρ q lv (.int x :: vr X k :: st) :=
  g_puti (T := TX3) (i := 0) hC hsh rfl iX3 tyX3_ok nmX3 (by decide) rfl rfl hw rfl d e hM kk
theorem fp_2_1 {X : CX} {cc : ByteArray} {own : String} {L cs ss n pc q : Nat} {σ : Sto} {ρ : Rho} {lv : List (Nat × Value)} {st : List Value} {β : Type} {res : β} (hC : Cx X cc own L) {k index : Nat} {x : Int32} {f : Sto → Option β} (hsh : Sh n k 2) (hw : Cond.fieldLink own index "ConicDesk$Form" "b" "I" ∈ lw_g) (d : decode cc pc = .ok (.putfield index, 3)) (e : q = pc) (hM : bn (su σ k 1 x) f = some res) (kk : ∀ σ', f σ' = some res → G X cs ss n σ' ρ (pc + 3) lv st) : G X cs ss n σ ρ q lv (.int x :: vr X k :: st) :=
  g_puti (T := TX3) (i := 1) hC hsh rfl iX3 tyX3_ok nmX3 (by decide) rfl rfl hw rfl d e hM kk
theorem fp_2_2 {X : CX} {cc : ByteArray} {own : String} {L cs ss n pc q : Nat} {σ : Sto} {ρ : Rho} {lv : List (Nat × Value)} {st : List Value} {β : Type} {res : β} (hC : Cx X cc own L) {k index : Nat} {x : Int32} {f : Sto → Option β} (hsh : Sh n k 2) (hw : Cond.fieldLink own index "ConicDesk$Form" "c" "I" ∈ lw_g) (d : decode cc pc = .ok (.putfield index, 3)) (e : q = pc) (hM : bn (su σ k 2 x) f = some res) (kk : ∀ σ', f σ' = some res → G X cs ss n σ' ρ (pc + 3) lv st) : G X cs ss n σ ρ q lv (.int x :: vr X k :: st) :=
  g_puti (T := TX3) (i := 2) hC hsh rfl iX3 tyX3_ok nmX3 (by decide) rfl rfl hw rfl d e hM kk
theorem fp_2_3 {X : CX} {cc : ByteArray} {own : String} {L cs ss n pc q : Nat} {σ : Sto} {ρ : Rho} {lv : List (Nat × Value)} {st : List Value} {β : Type} {res : β} (hC : Cx X cc own L) {k index : Nat} {x : Int32} {f : Sto → Option β} (hsh : Sh n k 2) (hw : Cond.fieldLink own index "ConicDesk$Form" "f" "I" ∈ lw_g) (d : decode cc pc = .ok (.putfield index, 3)) (e : q = pc) (hM : bn (su σ k 3 x) f = some res) (kk : ∀ σ', f σ' = some res → G X cs ss n σ' ρ (pc + 3) lv st) : G X cs ss n σ ρ q lv (.int x :: vr X k :: st) :=
  g_puti (T := TX3) (i := 3) hC hsh rfl iX3 tyX3_ok nmX3 (by decide) rfl rfl hw rfl d e hM kk
theorem fp_2_4 {X : CX} {cc : ByteArray} {own : String} {L cs ss n pc q : Nat} {σ : Sto} {ρ : Rho} {lv : List (Nat × Value)} {st : List Value} {β : Type} {res : β} (hC : Cx X cc own L) {k index : Nat} {x : Int32} {f : Sto → Option β} (hsh : Sh n k 2) (hw : Cond.fieldLink own index "ConicDesk$Form" "g" "I" ∈ lw_g) (d : decode cc pc = .ok (.putfield index, 3)) (e : q = pc) (hM : bn (su σ k 4 x) f = some res) (kk : ∀ σ', f σ' = some res → G X cs ss n σ' ρ (pc + 3) lv st) : G X cs ss n σ ρ q lv (.int x :: vr X k :: st) :=
  g_puti (T := TX3) (i := 4) hC hsh rfl iX3 tyX3_ok nmX3 (by decide) rfl rfl hw rfl d e hM kk
theorem fp_2_5 {X : CX} {cc : ByteArray} {own : String} {L cs ss n pc q : Nat} {σ : Sto} {ρ : Rho} {lv : List (Nat × Value)} {st : List Value} {β : Type} {res : β} (hC : Cx X cc own L) {k index : Nat} {x : Int32} {f : Sto → Option β} (hsh : Sh n k 2) (hw : Cond.fieldLink own index "ConicDesk$Form" "h" "I" ∈ lw_g) (d : decode cc pc = .ok (.putfield index, 3)) (e : q = pc) (hM : bn (su σ k 5 x) f = some res) (kk : ∀ σ', f σ' = some res → G X cs ss n σ' ρ (pc + 3) lv st) : G X cs ss n σ ρ q lv (.int x :: vr X k :: st) :=
  g_puti (T := TX3) (i := 5) hC hsh rfl iX3 tyX3_ok nmX3 (by decide) rfl rfl hw rfl d e hM kk
theorem fp_3_0 {X : CX} {cc : ByteArray} {own : String} {L cs ss n pc q : Nat} {σ : Sto} {ρ : Rho} {lv : List (Nat × Value)} {st : List Value} {β : Type} {res : β} (hC : Cx X cc "ConicDesk$Moment" L) (hin : (xh X).name = "<init>") {k j index : Nat} {f : Rho → Option β} (hsh : Sh n k 3) (hj : Sh n j 7) (hw : Cond.fieldLink "ConicDesk$Moment" index "ConicDesk$Moment" "sheet" "LConicDesk$Sheet;" ∈ lw_g) (d : decode cc pc = .ok (.putfield index, 3)) (e : q = pc) (hM : bn (ru ρ k 0 (some j)) f = some res) (kk : ∀ ρ', f ρ' = some res → G X cs ss n σ ρ' (pc + 3) lv st) : G X cs ss n σ ρ q lv (vr X j :: vr X k :: st) :=
  g_putr (T := TX4) (i := 0) (ty := tyX4) hC hin hsh hj rfl rfl iX4 tyX4_ok nmX4 (by decide) (fun a => ⟨rfl, rfl⟩) rfl hw rfl rfl d e hM kk
theorem fp_3_1 {X : CX} {cc : ByteArray} {own : String} {L cs ss n pc q : Nat} {σ : Sto} {ρ : Rho} {lv : List (Nat × Value)} {st : List Value} {β : Type} {res : β} (hC : Cx X cc "ConicDesk$Moment" L) (hin : (xh X).name = "<init>") {k j index : Nat} {f : Rho → Option β} (hsh : Sh n k 3) (hj : Sh n j 8) (hw : Cond.fieldLink "ConicDesk$Moment" index "ConicDesk$Moment" "tape" "LConicDesk$Tape;" ∈ lw_g) (d : decode cc pc = .ok (.putfield index, 3)) (e : q = pc) (hM : bn (ru ρ k 1 (some j)) f = some res) (kk : ∀ ρ', f ρ' = some res → G X cs ss n σ ρ' (pc + 3) lv st) : G X cs ss n σ ρ q lv (vr X j :: vr X k :: st) :=
  g_putr (T := TX4) (i := 1) (ty := tyX4) hC hin hsh hj rfl rfl iX4 tyX4_ok nmX4 (by decide) (fun a => ⟨rfl, rfl⟩) rfl hw rfl rfl d e hM kk
theorem fp_3_2 {X : CX} {cc : ByteArray} {own : String} {L cs ss n pc q : Nat} {σ : Sto} {ρ : Rho} {lv : List (Nat × Value)} {st : List Value} {β : Type} {res : β} (hC : Cx X cc own L) {k index : Nat} {x : Int32} {f : Sto → Option β} (hsh : Sh n k 3) (hw : Cond.fieldLink own index "ConicDesk$Moment" "fault" "I" ∈ lw_g) (d : decode cc pc = .ok (.putfield index, 3)) (e : q = pc) (hM : bn (su σ k 2 x) f = some res) (kk : ∀ σ', f σ' = some res → G X cs ss n σ' ρ (pc + 3) lv st) : G X cs ss n σ ρ q lv (.int x :: vr X k :: st) :=
  g_puti (T := TX4) (i := 2) hC hsh rfl iX4 tyX4_ok nmX4 (by decide) rfl rfl hw rfl d e hM kk
theorem fp_3_3 {X : CX} {cc : ByteArray} {own : String} {L cs ss n pc q : Nat} {σ : Sto} {ρ : Rho} {lv : List (Nat × Value)} {st : List Value} {β : Type} {res : β} (hC : Cx X cc own L) {k index : Nat} {x : Int32} {f : Sto → Option β} (hsh : Sh n k 3) (hw : Cond.fieldLink own index "ConicDesk$Moment" "faultPlace" "I" ∈ lw_g) (d : decode cc pc = .ok (.putfield index, 3)) (e : q = pc) (hM : bn (su σ k 3 x) f = some res) (kk : ∀ σ', f σ' = some res → G X cs ss n σ' ρ (pc + 3) lv st) : G X cs ss n σ ρ q lv (.int x :: vr X k :: st) :=
  g_puti (T := TX4) (i := 3) hC hsh rfl iX4 tyX4_ok nmX4 (by decide) rfl rfl hw rfl d e hM kk
theorem fp_3_4 {X : CX} {cc : ByteArray} {own : String} {L cs ss n pc q : Nat} {σ : Sto} {ρ : Rho} {lv : List (Nat × Value)} {st : List Value} {β : Type} {res : β} (hC : Cx X cc own L) {k index : Nat} {x : Int32} {f : Sto → Option β} (hsh : Sh n k 3) (hw : Cond.fieldLink own index "ConicDesk$Moment" "reason" "I" ∈ lw_g) (d : decode cc pc = .ok (.putfield index, 3)) (e : q = pc) (hM : bn (su σ k 4 x) f = some res) (kk : ∀ σ', f σ' = some res → G X cs ss n σ' ρ (pc + 3) lv st) : G X cs ss n σ ρ q lv (.int x :: vr X k :: st) :=
  g_puti (T := TX4) (i := 4) hC hsh rfl iX4 tyX4_ok nmX4 (by decide) rfl rfl hw rfl d e hM kk
theorem fp_3_5 {X : CX} {cc : ByteArray} {own : String} {L cs ss n pc q : Nat} {σ : Sto} {ρ : Rho} {lv : List (Nat × Value)} {st : List Value} {β : Type} {res : β} (hC : Cx X cc own L) {k index : Nat} {x : Int32} {f : Sto → Option β} (hsh : Sh n k 3) (hw : Cond.fieldLink own index "ConicDesk$Moment" "cause" "I" ∈ lw_g) (d : decode cc pc = .ok (.putfield index, 3)) (e : q = pc) (hM : bn (su σ k 5 x) f = some res) (kk : ∀ σ', f σ' = some res → G X cs ss n σ' ρ (pc + 3) lv st) : G X cs ss n σ ρ q lv (.int x :: vr X k :: st) :=
  g_puti (T := TX4) (i := 5) hC hsh rfl iX4 tyX4_ok nmX4 (by decide) rfl rfl hw rfl d e hM kk
theorem fp_4_0 {X : CX} {cc : ByteArray} {own : String} {L cs ss n pc q : Nat} {σ : Sto} {ρ : Rho} {lv : List (Nat × Value)} {st : List Value} {β : Type} {res : β} (hC : Cx X cc "ConicDesk$Past" L) (hin : (xh X).name = "<init>") {k j index : Nat} {f : Rho → Option β} (hsh : Sh n k 4) (hj : Sh n j 24) (hw : Cond.fieldLink "ConicDesk$Past" index "ConicDesk$Past" "ring" "[LConicDesk$Sheet;" ∈ lw_g) (d : decode cc pc = .ok (.putfield index, 3)) (e : q = pc) (hM : bn (ru ρ k 0 (some j)) f = some res) (kk : ∀ ρ', f ρ' = some res → G X cs ss n σ ρ' (pc + 3) lv st) : G X cs ss n σ ρ q lv (vr X j :: vr X k :: st) :=
  g_putr (T := TX5) (i := 0) (ty := tyX5) hC hin hsh hj rfl rfl iX5 tyX5_ok nmX5 (by decide) (fun a => ⟨rfl, rfl⟩) rfl hw rfl rfl d e hM kk
theorem fp_4_1 {X : CX} {cc : ByteArray} {own : String} {L cs ss n pc q : Nat} {σ : Sto} {ρ : Rho} {lv : List (Nat × Value)} {st : List Value} {β : Type} {res : β} (hC : Cx X cc own L) {k index : Nat} {x : Int32} {f : Sto → Option β} (hsh : Sh n k 4) (hw : Cond.fieldLink own index "ConicDesk$Past" "next" "I" ∈ lw_g) (d : decode cc pc = .ok (.putfield index, 3)) (e : q = pc) (hM : bn (su σ k 1 x) f = some res) (kk : ∀ σ', f σ' = some res → G X cs ss n σ' ρ (pc + 3) lv st) : G X cs ss n σ ρ q lv (.int x :: vr X k :: st) :=
  g_puti (T := TX5) (i := 1) hC hsh rfl iX5 tyX5_ok nmX5 (by decide) rfl rfl hw rfl d e hM kk
theorem fp_4_2 {X : CX} {cc : ByteArray} {own : String} {L cs ss n pc q : Nat} {σ : Sto} {ρ : Rho} {lv : List (Nat × Value)} {st : List Value} {β : Type} {res : β} (hC : Cx X cc own L) {k index : Nat} {x : Int32} {f : Sto → Option β} (hsh : Sh n k 4) (hw : Cond.fieldLink own index "ConicDesk$Past" "size" "I" ∈ lw_g) (d : decode cc pc = .ok (.putfield index, 3)) (e : q = pc) (hM : bn (su σ k 2 x) f = some res) (kk : ∀ σ', f σ' = some res → G X cs ss n σ' ρ (pc + 3) lv st) : G X cs ss n σ ρ q lv (.int x :: vr X k :: st) :=
  g_puti (T := TX5) (i := 2) hC hsh rfl iX5 tyX5_ok nmX5 (by decide) rfl rfl hw rfl d e hM kk
theorem fp_5_0 {X : CX} {cc : ByteArray} {own : String} {L cs ss n pc q : Nat} {σ : Sto} {ρ : Rho} {lv : List (Nat × Value)} {st : List Value} {β : Type} {res : β} (hC : Cx X cc "ConicDesk$Pencil" L) (hin : (xh X).name = "<init>") {k j index : Nat} {f : Rho → Option β} (hsh : Sh n k 5) (hj : Sh n j 0) (hw : Cond.fieldLink "ConicDesk$Pencil" index "ConicDesk$Pencil" "one" "LConicDesk$Curve;" ∈ lw_g) (d : decode cc pc = .ok (.putfield index, 3)) (e : q = pc) (hM : bn (ru ρ k 0 (some j)) f = some res) (kk : ∀ ρ', f ρ' = some res → G X cs ss n σ ρ' (pc + 3) lv st) : G X cs ss n σ ρ q lv (vr X j :: vr X k :: st) :=
  g_putr (T := TX6) (i := 0) (ty := tyX6) hC hin hsh hj rfl rfl iX6 tyX6_ok nmX6 (by decide) (fun a => ⟨rfl, rfl⟩) rfl hw rfl rfl d e hM kk
theorem fp_5_1 {X : CX} {cc : ByteArray} {own : String} {L cs ss n pc q : Nat} {σ : Sto} {ρ : Rho} {lv : List (Nat × Value)} {st : List Value} {β : Type} {res : β} (hC : Cx X cc "ConicDesk$Pencil" L) (hin : (xh X).name = "<init>") {k j index : Nat} {f : Rho → Option β} (hsh : Sh n k 5) (hj : Sh n j 0) (hw : Cond.fieldLink "ConicDesk$Pencil" index "ConicDesk$Pencil" "other" "LConicDesk$Curve;" ∈ lw_g) (d : decode cc pc = .ok (.putfield index, 3)) (e : q = pc) (hM : bn (ru ρ k 1 (some j)) f = some res) (kk : ∀ ρ', f ρ' = some res → G X cs ss n σ ρ' (pc + 3) lv st) : G X cs ss n σ ρ q lv (vr X j :: vr X k :: st) :=
  g_putr (T := TX6) (i := 1) (ty := tyX6) hC hin hsh hj rfl rfl iX6 tyX6_ok nmX6 (by decide) (fun a => ⟨rfl, rfl⟩) rfl hw rfl rfl d e hM kk
theorem fp_5_2 {X : CX} {cc : ByteArray} {own : String} {L cs ss n pc q : Nat} {σ : Sto} {ρ : Rho} {lv : List (Nat × Value)} {st : List Value} {β : Type} {res : β} (hC : Cx X cc "ConicDesk$Pencil" L) (hin : (xh X).name = "<init>") {k j index : Nat} {f : Rho → Option β} (hsh : Sh n k 5) (hj : Sh n j 0) (hw : Cond.fieldLink "ConicDesk$Pencil" index "ConicDesk$Pencil" "mixed" "LConicDesk$Curve;" ∈ lw_g) (d : decode cc pc = .ok (.putfield index, 3)) (e : q = pc) (hM : bn (ru ρ k 2 (some j)) f = some res) (kk : ∀ ρ', f ρ' = some res → G X cs ss n σ ρ' (pc + 3) lv st) : G X cs ss n σ ρ q lv (vr X j :: vr X k :: st) :=
  g_putr (T := TX6) (i := 2) (ty := tyX6) hC hin hsh hj rfl rfl iX6 tyX6_ok nmX6 (by decide) (fun a => ⟨rfl, rfl⟩) rfl hw rfl rfl d e hM kk
theorem fp_5_3 {X : CX} {cc : ByteArray} {own : String} {L cs ss n pc q : Nat} {σ : Sto} {ρ : Rho} {lv : List (Nat × Value)} {st : List Value} {β : Type} {res : β} (hC : Cx X cc "ConicDesk$Pencil" L) (hin : (xh X).name = "<init>") {k j index : Nat} {f : Rho → Option β} (hsh : Sh n k 5) (hj : Sh n j 9) (hw : Cond.fieldLink "ConicDesk$Pencil" index "ConicDesk$Pencil" "spot" "LConicDesk$Triple;" ∈ lw_g) (d : decode cc pc = .ok (.putfield index, 3)) (e : q = pc) (hM : bn (ru ρ k 3 (some j)) f = some res) (kk : ∀ ρ', f ρ' = some res → G X cs ss n σ ρ' (pc + 3) lv st) : G X cs ss n σ ρ q lv (vr X j :: vr X k :: st) :=
  g_putr (T := TX6) (i := 3) (ty := tyX6) hC hin hsh hj rfl rfl iX6 tyX6_ok nmX6 (by decide) (fun a => ⟨rfl, rfl⟩) rfl hw rfl rfl d e hM kk
theorem fp_5_4 {X : CX} {cc : ByteArray} {own : String} {L cs ss n pc q : Nat} {σ : Sto} {ρ : Rho} {lv : List (Nat × Value)} {st : List Value} {β : Type} {res : β} (hC : Cx X cc "ConicDesk$Pencil" L) (hin : (xh X).name = "<init>") {k j index : Nat} {f : Rho → Option β} (hsh : Sh n k 5) (hj : Sh n j 9) (hw : Cond.fieldLink "ConicDesk$Pencil" index "ConicDesk$Pencil" "line" "LConicDesk$Triple;" ∈ lw_g) (d : decode cc pc = .ok (.putfield index, 3)) (e : q = pc) (hM : bn (ru ρ k 4 (some j)) f = some res) (kk : ∀ ρ', f ρ' = some res → G X cs ss n σ ρ' (pc + 3) lv st) : G X cs ss n σ ρ q lv (vr X j :: vr X k :: st) :=
  g_putr (T := TX6) (i := 4) (ty := tyX6) hC hin hsh hj rfl rfl iX6 tyX6_ok nmX6 (by decide) (fun a => ⟨rfl, rfl⟩) rfl hw rfl rfl d e hM kk
theorem fp_6_0 {X : CX} {cc : ByteArray} {own : String} {L cs ss n pc q : Nat} {σ : Sto} {ρ : Rho} {lv : List (Nat × Value)} {st : List Value} {β : Type} {res : β} (hC : Cx X cc "ConicDesk$Reader" L) (hin : (xh X).name = "<init>") {k j index : Nat} {f : Rho → Option β} (hsh : Sh n k 6) (hj : Sh n j 7) (hw : Cond.fieldLink "ConicDesk$Reader" index "ConicDesk$Reader" "draft" "LConicDesk$Sheet;" ∈ lw_g) (d : decode cc pc = .ok (.putfield index, 3)) (e : q = pc) (hM : bn (ru ρ k 0 (some j)) f = some res) (kk : ∀ ρ', f ρ' = some res → G X cs ss n σ ρ' (pc + 3) lv st) : G X cs ss n σ ρ q lv (vr X j :: vr X k :: st) :=
  g_putr (T := TX7) (i := 0) (ty := tyX7) hC hin hsh hj rfl rfl iX7 tyX7_ok nmX7 (by decide) (fun a => ⟨rfl, rfl⟩) rfl hw rfl rfl d e hM kk
theorem fp_6_1 {X : CX} {cc : ByteArray} {own : String} {L cs ss n pc q : Nat} {σ : Sto} {ρ : Rho} {lv : List (Nat × Value)} {st : List Value} {β : Type} {res : β} (hC : Cx X cc own L) {k index : Nat} {x : Int32} {f : Sto → Option β} (hsh : Sh n k 6) (hw : Cond.fieldLink own index "ConicDesk$Reader" "fault" "I" ∈ lw_g) (d : decode cc pc = .ok (.putfield index, 3)) (e : q = pc) (hM : bn (su σ k 1 x) f = some res) (kk : ∀ σ', f σ' = some res → G X cs ss n σ' ρ (pc + 3) lv st) : G X cs ss n σ ρ q lv (.int x :: vr X k :: st) :=
  g_puti (T := TX7) (i := 1) hC hsh rfl iX7 tyX7_ok nmX7 (by decide) rfl rfl hw rfl d e hM kk
theorem fp_6_2 {X : CX} {cc : ByteArray} {own : String} {L cs ss n pc q : Nat} {σ : Sto} {ρ : Rho} {lv : List (Nat × Value)} {st : List Value} {β : Type} {res : β} (hC : Cx X cc own L) {k index : Nat} {x : Int32} {f : Sto → Option β} (hsh : Sh n k 6) (hw : Cond.fieldLink own index "ConicDesk$Reader" "faultPlace" "I" ∈ lw_g) (d : decode cc pc = .ok (.putfield index, 3)) (e : q = pc) (hM : bn (su σ k 2 x) f = some res) (kk : ∀ σ', f σ' = some res → G X cs ss n σ' ρ (pc + 3) lv st) : G X cs ss n σ ρ q lv (.int x :: vr X k :: st) :=
  g_puti (T := TX7) (i := 2) hC hsh rfl iX7 tyX7_ok nmX7 (by decide) rfl rfl hw rfl d e hM kk
theorem fp_6_3 {X : CX} {cc : ByteArray} {own : String} {L cs ss n pc q : Nat} {σ : Sto} {ρ : Rho} {lv : List (Nat × Value)} {st : List Value} {β : Type} {res : β} (hC : Cx X cc "ConicDesk$Reader" L) (hin : (xh X).name = "<init>") {k j index : Nat} {f : Rho → Option β} (hsh : Sh n k 6) (hj : Sh n j 2) (hw : Cond.fieldLink "ConicDesk$Reader" index "ConicDesk$Reader" "form" "LConicDesk$Form;" ∈ lw_g) (d : decode cc pc = .ok (.putfield index, 3)) (e : q = pc) (hM : bn (ru ρ k 3 (some j)) f = some res) (kk : ∀ ρ', f ρ' = some res → G X cs ss n σ ρ' (pc + 3) lv st) : G X cs ss n σ ρ q lv (vr X j :: vr X k :: st) :=
  g_putr (T := TX7) (i := 3) (ty := tyX7) hC hin hsh hj rfl rfl iX7 tyX7_ok nmX7 (by decide) (fun a => ⟨rfl, rfl⟩) rfl hw rfl rfl d e hM kk
theorem fp_6_4 {X : CX} {cc : ByteArray} {own : String} {L cs ss n pc q : Nat} {σ : Sto} {ρ : Rho} {lv : List (Nat × Value)} {st : List Value} {β : Type} {res : β} (hC : Cx X cc "ConicDesk$Reader" L) (hin : (xh X).name = "<init>") {k j index : Nat} {f : Rho → Option β} (hsh : Sh n k 6) (hj : Sh n j 9) (hw : Cond.fieldLink "ConicDesk$Reader" index "ConicDesk$Reader" "spot" "LConicDesk$Triple;" ∈ lw_g) (d : decode cc pc = .ok (.putfield index, 3)) (e : q = pc) (hM : bn (ru ρ k 4 (some j)) f = some res) (kk : ∀ ρ', f ρ' = some res → G X cs ss n σ ρ' (pc + 3) lv st) : G X cs ss n σ ρ q lv (vr X j :: vr X k :: st) :=
  g_putr (T := TX7) (i := 4) (ty := tyX7) hC hin hsh hj rfl rfl iX7 tyX7_ok nmX7 (by decide) (fun a => ⟨rfl, rfl⟩) rfl hw rfl rfl d e hM kk
theorem fp_6_5 {X : CX} {cc : ByteArray} {own : String} {L cs ss n pc q : Nat} {σ : Sto} {ρ : Rho} {lv : List (Nat × Value)} {st : List Value} {β : Type} {res : β} (hC : Cx X cc own L) {k index : Nat} {x : Int32} {f : Sto → Option β} (hsh : Sh n k 6) (hw : Cond.fieldLink own index "ConicDesk$Reader" "at" "I" ∈ lw_g) (d : decode cc pc = .ok (.putfield index, 3)) (e : q = pc) (hM : bn (su σ k 5 x) f = some res) (kk : ∀ σ', f σ' = some res → G X cs ss n σ' ρ (pc + 3) lv st) : G X cs ss n σ ρ q lv (.int x :: vr X k :: st) :=
  g_puti (T := TX7) (i := 5) hC hsh rfl iX7 tyX7_ok nmX7 (by decide) rfl rfl hw rfl d e hM kk
theorem fp_6_6 {X : CX} {cc : ByteArray} {own : String} {L cs ss n pc q : Nat} {σ : Sto} {ρ : Rho} {lv : List (Nat × Value)} {st : List Value} {β : Type} {res : β} (hC : Cx X cc own L) {k index : Nat} {x : Int32} {f : Sto → Option β} (hsh : Sh n k 6) (hw : Cond.fieldLink own index "ConicDesk$Reader" "token" "I" ∈ lw_g) (d : decode cc pc = .ok (.putfield index, 3)) (e : q = pc) (hM : bn (su σ k 6 x) f = some res) (kk : ∀ σ', f σ' = some res → G X cs ss n σ' ρ (pc + 3) lv st) : G X cs ss n σ ρ q lv (.int x :: vr X k :: st) :=
  g_puti (T := TX7) (i := 6) hC hsh rfl iX7 tyX7_ok nmX7 (by decide) rfl rfl hw rfl d e hM kk
theorem fp_6_7 {X : CX} {cc : ByteArray} {own : String} {L cs ss n pc q : Nat} {σ : Sto} {ρ : Rho} {lv : List (Nat × Value)} {st : List Value} {β : Type} {res : β} (hC : Cx X cc own L) {k index : Nat} {x : Int32} {f : Sto → Option β} (hsh : Sh n k 6) (hw : Cond.fieldLink own index "ConicDesk$Reader" "start" "I" ∈ lw_g) (d : decode cc pc = .ok (.putfield index, 3)) (e : q = pc) (hM : bn (su σ k 7 x) f = some res) (kk : ∀ σ', f σ' = some res → G X cs ss n σ' ρ (pc + 3) lv st) : G X cs ss n σ ρ q lv (.int x :: vr X k :: st) :=
  g_puti (T := TX7) (i := 7) hC hsh rfl iX7 tyX7_ok nmX7 (by decide) rfl rfl hw rfl d e hM kk
theorem fp_6_8 {X : CX} {cc : ByteArray} {own : String} {L cs ss n pc q : Nat} {σ : Sto} {ρ : Rho} {lv : List (Nat × Value)} {st : List Value} {β : Type} {res : β} (hC : Cx X cc own L) {k index : Nat} {x : Int32} {f : Sto → Option β} (hsh : Sh n k 6) (hw : Cond.fieldLink own index "ConicDesk$Reader" "value" "I" ∈ lw_g) (d : decode cc pc = .ok (.putfield index, 3)) (e : q = pc) (hM : bn (su σ k 8 x) f = some res) (kk : ∀ σ', f σ' = some res → G X cs ss n σ' ρ (pc + 3) lv st) : G X cs ss n σ ρ q lv (.int x :: vr X k :: st) :=
  g_puti (T := TX7) (i := 8) hC hsh rfl iX7 tyX7_ok nmX7 (by decide) rfl rfl hw rfl d e hM kk
theorem fp_7_0 {X : CX} {cc : ByteArray} {own : String} {L cs ss n pc q : Nat} {σ : Sto} {ρ : Rho} {lv : List (Nat × Value)} {st : List Value} {β : Type} {res : β} (hC : Cx X cc own L) {k index : Nat} {x : Int32} {f : Sto → Option β} (hsh : Sh n k 7) (hw : Cond.fieldLink own index "ConicDesk$Sheet" "prime" "I" ∈ lw_g) (d : decode cc pc = .ok (.putfield index, 3)) (e : q = pc) (hM : bn (su σ k 0 x) f = some res) (kk : ∀ σ', f σ' = some res → G X cs ss n σ' ρ (pc + 3) lv st) : G X cs ss n σ ρ q lv (.int x :: vr X k :: st) :=
  g_puti (T := TX8) (i := 0) hC hsh rfl iX8 tyX8_ok nmX8 (by decide) rfl rfl hw rfl d e hM kk
theorem fp_7_1 {X : CX} {cc : ByteArray} {own : String} {L cs ss n pc q : Nat} {σ : Sto} {ρ : Rho} {lv : List (Nat × Value)} {st : List Value} {β : Type} {res : β} (hC : Cx X cc own L) {k index : Nat} {x : Int32} {f : Sto → Option β} (hsh : Sh n k 7) (hw : Cond.fieldLink own index "ConicDesk$Sheet" "markCount" "I" ∈ lw_g) (d : decode cc pc = .ok (.putfield index, 3)) (e : q = pc) (hM : bn (su σ k 1 x) f = some res) (kk : ∀ σ', f σ' = some res → G X cs ss n σ' ρ (pc + 3) lv st) : G X cs ss n σ ρ q lv (.int x :: vr X k :: st) :=
  g_puti (T := TX8) (i := 1) hC hsh rfl iX8 tyX8_ok nmX8 (by decide) rfl rfl hw rfl d e hM kk
theorem fp_7_2 {X : CX} {cc : ByteArray} {own : String} {L cs ss n pc q : Nat} {σ : Sto} {ρ : Rho} {lv : List (Nat × Value)} {st : List Value} {β : Type} {res : β} (hC : Cx X cc "ConicDesk$Sheet" L) (hin : (xh X).name = "<init>") {k j index : Nat} {f : Rho → Option β} (hsh : Sh n k 7) (hj : Sh n j 20) (hw : Cond.fieldLink "ConicDesk$Sheet" index "ConicDesk$Sheet" "marks" "[I" ∈ lw_g) (d : decode cc pc = .ok (.putfield index, 3)) (e : q = pc) (hM : bn (ru ρ k 2 (some j)) f = some res) (kk : ∀ ρ', f ρ' = some res → G X cs ss n σ ρ' (pc + 3) lv st) : G X cs ss n σ ρ q lv (vr X j :: vr X k :: st) :=
  g_putr (T := TX8) (i := 2) (ty := tyX8) hC hin hsh hj rfl rfl iX8 tyX8_ok nmX8 (by decide) (fun a => ⟨rfl, rfl⟩) rfl hw rfl rfl d e hM kk
theorem fp_7_3 {X : CX} {cc : ByteArray} {own : String} {L cs ss n pc q : Nat} {σ : Sto} {ρ : Rho} {lv : List (Nat × Value)} {st : List Value} {β : Type} {res : β} (hC : Cx X cc "ConicDesk$Sheet" L) (hin : (xh X).name = "<init>") {k j index : Nat} {f : Rho → Option β} (hsh : Sh n k 7) (hj : Sh n j 20) (hw : Cond.fieldLink "ConicDesk$Sheet" index "ConicDesk$Sheet" "numbers" "[I" ∈ lw_g) (d : decode cc pc = .ok (.putfield index, 3)) (e : q = pc) (hM : bn (ru ρ k 3 (some j)) f = some res) (kk : ∀ ρ', f ρ' = some res → G X cs ss n σ ρ' (pc + 3) lv st) : G X cs ss n σ ρ q lv (vr X j :: vr X k :: st) :=
  g_putr (T := TX8) (i := 3) (ty := tyX8) hC hin hsh hj rfl rfl iX8 tyX8_ok nmX8 (by decide) (fun a => ⟨rfl, rfl⟩) rfl hw rfl rfl d e hM kk
theorem fp_8_0 {X : CX} {cc : ByteArray} {own : String} {L cs ss n pc q : Nat} {σ : Sto} {ρ : Rho} {lv : List (Nat × Value)} {st : List Value} {β : Type} {res : β} (hC : Cx X cc "ConicDesk$Tape" L) (hin : (xh X).name = "<init>") {k j index : Nat} {f : Rho → Option β} (hsh : Sh n k 8) (hj : Sh n j 21) (hw : Cond.fieldLink "ConicDesk$Tape" index "ConicDesk$Tape" "bytes" "[B" ∈ lw_g) (d : decode cc pc = .ok (.putfield index, 3)) (e : q = pc) (hM : bn (ru ρ k 0 (some j)) f = some res) (kk : ∀ ρ', f ρ' = some res → G X cs ss n σ ρ' (pc + 3) lv st) : G X cs ss n σ ρ q lv (vr X j :: vr X k :: st) :=
  g_putr (T := TX9) (i := 0) (ty := tyX9) hC hin hsh hj rfl rfl iX9 tyX9_ok nmX9 (by decide) (fun a => ⟨rfl, rfl⟩) rfl hw rfl rfl d e hM kk
theorem fp_8_1 {X : CX} {cc : ByteArray} {own : String} {L cs ss n pc q : Nat} {σ : Sto} {ρ : Rho} {lv : List (Nat × Value)} {st : List Value} {β : Type} {res : β} (hC : Cx X cc own L) {k index : Nat} {x : Int32} {f : Sto → Option β} (hsh : Sh n k 8) (hw : Cond.fieldLink own index "ConicDesk$Tape" "length" "I" ∈ lw_g) (d : decode cc pc = .ok (.putfield index, 3)) (e : q = pc) (hM : bn (su σ k 1 x) f = some res) (kk : ∀ σ', f σ' = some res → G X cs ss n σ' ρ (pc + 3) lv st) : G X cs ss n σ ρ q lv (.int x :: vr X k :: st) :=
  g_puti (T := TX9) (i := 1) hC hsh rfl iX9 tyX9_ok nmX9 (by decide) rfl rfl hw rfl d e hM kk
theorem fp_9_0 {X : CX} {cc : ByteArray} {own : String} {L cs ss n pc q : Nat} {σ : Sto} {ρ : Rho} {lv : List (Nat × Value)} {st : List Value} {β : Type} {res : β} (hC : Cx X cc own L) {k index : Nat} {x : Int32} {f : Sto → Option β} (hsh : Sh n k 9) (hw : Cond.fieldLink own index "ConicDesk$Triple" "x" "I" ∈ lw_g) (d : decode cc pc = .ok (.putfield index, 3)) (e : q = pc) (hM : bn (su σ k 0 x) f = some res) (kk : ∀ σ', f σ' = some res → G X cs ss n σ' ρ (pc + 3) lv st) : G X cs ss n σ ρ q lv (.int x :: vr X k :: st) :=
  g_puti (T := TX10) (i := 0) hC hsh rfl iX10 tyX10_ok nmX10 (by decide) rfl rfl hw rfl d e hM kk
theorem fp_9_1 {X : CX} {cc : ByteArray} {own : String} {L cs ss n pc q : Nat} {σ : Sto} {ρ : Rho} {lv : List (Nat × Value)} {st : List Value} {β : Type} {res : β} (hC : Cx X cc own L) {k index : Nat} {x : Int32} {f : Sto → Option β} (hsh : Sh n k 9) (hw : Cond.fieldLink own index "ConicDesk$Triple" "y" "I" ∈ lw_g) (d : decode cc pc = .ok (.putfield index, 3)) (e : q = pc) (hM : bn (su σ k 1 x) f = some res) (kk : ∀ σ', f σ' = some res → G X cs ss n σ' ρ (pc + 3) lv st) : G X cs ss n σ ρ q lv (.int x :: vr X k :: st) :=
  g_puti (T := TX10) (i := 1) hC hsh rfl iX10 tyX10_ok nmX10 (by decide) rfl rfl hw rfl d e hM kk
theorem fp_9_2 {X : CX} {cc : ByteArray} {own : String} {L cs ss n pc q : Nat} {σ : Sto} {ρ : Rho} {lv : List (Nat × Value)} {st : List Value} {β : Type} {res : β} (hC : Cx X cc own L) {k index : Nat} {x : Int32} {f : Sto → Option β} (hsh : Sh n k 9) (hw : Cond.fieldLink own index "ConicDesk$Triple" "z" "I" ∈ lw_g) (d : decode cc pc = .ok (.putfield index, 3)) (e : q = pc) (hM : bn (su σ k 2 x) f = some res) (kk : ∀ σ', f σ' = some res → G X cs ss n σ' ρ (pc + 3) lv st) : G X cs ss n σ ρ q lv (.int x :: vr X k :: st) :=
  g_puti (T := TX10) (i := 2) hC hsh rfl iX10 tyX10_ok nmX10 (by decide) rfl rfl hw rfl d e hM kk
theorem I_J0_charAt_5068e : Yi yJ0_charAt_5068e := ⟨k_494, k_495⟩
theorem I_J0_coder_7d493 : Yi yJ0_coder_7d493 := ⟨k_488, k_489⟩
theorem I_J0_isLatin1_aae02 : Yi yJ0_isLatin1_aae02 := ⟨k_498, k_499⟩
theorem I_J0_length_8abf5 : Yi yJ0_length_8abf5 := ⟨k_484, k_485⟩
theorem I_X0_becomeDual : Yi yX0_becomeDual := ⟨k_731, k_732⟩
theorem I_X0_crossings : Yi yX0_crossings := ⟨k_926, k_927⟩
theorem I_X0_isUnlike : Yi yX0_isUnlike := ⟨k_980, k_981⟩
theorem I_X0_kind : Yi yX0_kind := ⟨k_705, k_706⟩
theorem I_X0_lines : Yi yX0_lines := ⟨k_878, k_879⟩
theorem I_X0_mix : Yi yX0_mix := ⟨k_989, k_990⟩
theorem I_X0_points : Yi yX0_points := ⟨k_872, k_873⟩
theorem I_X0_polarOf : Yi yX0_polarOf := ⟨k_921, k_922⟩
theorem I_X0_rank : Yi yX0_rank := ⟨k_709, k_710⟩
theorem I_X0_sideMinor : Yi yX0_sideMinor := ⟨k_720, k_14⟩
theorem I_X0_take : Yi yX0_take := ⟨k_690, k_691⟩
theorem I_X0_valueAt : Yi yX0_valueAt := ⟨k_772, k_773⟩
theorem I_X0_zeros : Yi yX0_zeros := ⟨k_931, k_26⟩
theorem I_X10_cross : Yi yX10_cross := ⟨k_828, k_829⟩
theorem I_X10_fill : Yi yX10_fill := ⟨k_555, k_556⟩
theorem I_X10_isOn : Yi yX10_isOn := ⟨k_832, k_833⟩
theorem I_X10_nth : Yi yX10_nth := ⟨k_886, k_887⟩
theorem I_X10_numbered : Yi yX10_numbered := ⟨k_895, k_896⟩
theorem I_X10_take : Yi yX10_take := ⟨k_548, k_549⟩
theorem I_X11_accept : Yi yX11_accept := ⟨k_652, k_12⟩
theorem I_X11_again : Yi yX11_again := ⟨k_1069, k_1070⟩
theorem I_X11_become : Yi yX11_become := ⟨k_672, k_13⟩
theorem I_X11_conic : Yi yX11_conic := ⟨k_837, k_838⟩
theorem I_X11_count : Yi yX11_count := ⟨k_810, k_811⟩
theorem I_X11_end : Yi yX11_end := ⟨k_432, k_433⟩
theorem I_X11_fault : Yi yX11_fault := ⟨k_629, k_630⟩
theorem I_X11_feed : Yi yX11_feed := ⟨k_424, k_425⟩
theorem I_X11_freed : Yi yX11_freed := ⟨k_1043, k_1044⟩
theorem I_X11_image : Yi yX11_image := ⟨k_1055, k_1056⟩
theorem I_X11_isInLine : Yi yX11_isInLine := ⟨k_824, k_19⟩
theorem I_X11_joined : Yi yX11_joined := ⟨k_900, k_901⟩
theorem I_X11_lies : Yi yX11_lies := ⟨k_908, k_909⟩
theorem I_X11_mark : Yi yX11_mark := ⟨k_787, k_788⟩
theorem I_X11_marked : Yi yX11_marked := ⟨k_904, k_905⟩
theorem I_X11_marksInLine : Yi yX11_marksInLine := ⟨k_820, k_18⟩
theorem I_X11_meets : Yi yX11_meets := ⟨k_954, k_955⟩
theorem I_X11_member : Yi yX11_member := ⟨k_1027, k_1028⟩
theorem I_X11_nthLineOn : Yi yX11_nthLineOn := ⟨k_939, k_27⟩
theorem I_X11_nthPointOn : Yi yX11_nthPointOn := ⟨k_943, k_28⟩
theorem I_X11_nthTangentThroughSpot : Yi yX11_nthTangentThroughSpot := ⟨k_963, k_29⟩
theorem I_X11_number : Yi yX11_number := ⟨k_890, k_891⟩
theorem I_X11_on : Yi yX11_on := ⟨k_934, k_935⟩
theorem I_X11_only : Yi yX11_only := ⟨k_1039, k_1040⟩
theorem I_X11_overField : Yi yX11_overField := ⟨k_869, k_23⟩
theorem I_X11_overFractionsOrKind : Yi yX11_overFractionsOrKind := ⟨k_843, k_20⟩
theorem I_X11_passing : Yi yX11_passing := ⟨k_1031, k_1032⟩
theorem I_X11_pencil : Yi yX11_pencil := ⟨k_966, k_967⟩
theorem I_X11_place : Yi yX11_place := ⟨k_882, k_883⟩
theorem I_X11_polar : Yi yX11_polar := ⟨k_946, k_947⟩
theorem I_X11_pole : Yi yX11_pole := ⟨k_950, k_951⟩
theorem I_X11_prime : Yi yX11_prime := ⟨k_633, k_634⟩
theorem I_X11_properConics : Yi yX11_properConics := ⟨k_816, k_17⟩
theorem I_X11_refuse : Yi yX11_refuse := ⟨k_639, k_11⟩
theorem I_X11_set : Yi yX11_set := ⟨k_655, k_656⟩
theorem I_X11_sum : Yi yX11_sum := ⟨k_678, k_679⟩
theorem I_X11_takeBoth : Yi yX11_takeBoth := ⟨k_913, k_24⟩
theorem I_X11_takePencil : Yi yX11_takePencil := ⟨k_971, k_30⟩
theorem I_X11_tangent : Yi yX11_tangent := ⟨k_958, k_959⟩
theorem I_X11_tangentsThroughSpot : Yi yX11_tangentsThroughSpot := ⟨k_918, k_25⟩
theorem I_X11_text : Yi yX11_text := ⟨k_436, k_437⟩
theorem I_X11_through : Yi yX11_through := ⟨k_752, k_753⟩
theorem I_X11_turn : Yi yX11_turn := ⟨k_686, k_687⟩
theorem I_X11_twist : Yi yX11_twist := ⟨k_736, k_737⟩
theorem I_X11_undo : Yi yX11_undo := ⟨k_802, k_803⟩
theorem I_X11_useful : Yi yX11_useful := ⟨k_1051, k_1052⟩
theorem I_X11_why : Yi yX11_why := ⟨k_798, k_799⟩
theorem I_X12_again : Yi yX12_again := ⟨k_1531, k_1532⟩
theorem I_X12_areOnLine : Yi yX12_areOnLine := ⟨k_1301, k_60⟩
theorem I_X12_base : Yi yX12_base := ⟨k_1405, k_73⟩
theorem I_X12_becomes : Yi yX12_becomes := ⟨k_1181, k_38⟩
theorem I_X12_byteAt : Yi yX12_byteAt := ⟨k_1465, k_79⟩
theorem I_X12_conic : Yi yX12_conic := ⟨k_1312, k_1313⟩
theorem I_X12_copies : Yi yX12_copies := ⟨k_1160, k_36⟩
theorem I_X12_count : Yi yX12_count := ⟨k_1288, k_1289⟩
theorem I_X12_end : Yi yX12_end := ⟨k_1448, k_1449⟩
theorem I_X12_ends : Yi yX12_ends := ⟨k_1505, k_86⟩
theorem I_X12_fails : Yi yX12_fails := ⟨k_1497, k_84⟩
theorem I_X12_fallen : Yi yX12_fallen := ⟨k_1413, k_75⟩
theorem I_X12_fault : Yi yX12_fault := ⟨k_1452, k_1453⟩
theorem I_X12_feed : Yi yX12_feed := ⟨k_1444, k_1445⟩
theorem I_X12_firsts : Yi yX12_firsts := ⟨k_1080, k_33⟩
theorem I_X12_freed : Yi yX12_freed := ⟨k_1436, k_1437⟩
theorem I_X12_hasOne : Yi yX12_hasOne := ⟨k_1257, k_53⟩
theorem I_X12_hasSign : Yi yX12_hasSign := ⟨k_1509, k_87⟩
theorem I_X12_hasWord : Yi yX12_hasWord := ⟨k_1489, k_82⟩
theorem I_X12_image : Yi yX12_image := ⟨k_1527, k_1528⟩
theorem I_X12_inverse : Yi yX12_inverse := ⟨k_1221, k_46⟩
theorem I_X12_isBase : Yi yX12_isBase := ⟨k_1409, k_74⟩
theorem I_X12_isGood : Yi yX12_isGood := ⟨k_1480, k_80⟩
theorem I_X12_isOfAll : Yi yX12_isOfAll := ⟨k_1233, k_49⟩
theorem I_X12_isOn : Yi yX12_isOn := ⟨k_1245, k_52⟩
theorem I_X12_isOnLine : Yi yX12_isOnLine := ⟨k_1237, k_50⟩
theorem I_X12_isPencil : Yi yX12_isPencil := ⟨k_1397, k_71⟩
theorem I_X12_isPlace : Yi yX12_isPlace := ⟨k_1273, k_56⟩
theorem I_X12_isTangent : Yi yX12_isTangent := ⟨k_1389, k_70⟩
theorem I_X12_isVoid : Yi yX12_isVoid := ⟨k_1401, k_72⟩
theorem I_X12_joined : Yi yX12_joined := ⟨k_1356, k_1357⟩
theorem I_X12_keeps : Yi yX12_keeps := ⟨k_1156, k_35⟩
theorem I_X12_kindOf : Yi yX12_kindOf := ⟨k_1209, k_43⟩
theorem I_X12_laysConic : Yi yX12_laysConic := ⟨k_1201, k_41⟩
theorem I_X12_laysIts : Yi yX12_laysIts := ⟨k_1177, k_37⟩
theorem I_X12_laysMark : Yi yX12_laysMark := ⟨k_1265, k_55⟩
theorem I_X12_laysMember : Yi yX12_laysMember := ⟨k_1417, k_76⟩
theorem I_X12_laysPlace : Yi yX12_laysPlace := ⟨k_1241, k_51⟩
theorem I_X12_lies : Yi yX12_lies := ⟨k_1364, k_1365⟩
theorem I_X12_liesOf : Yi yX12_liesOf := ⟨k_1337, k_67⟩
theorem I_X12_lineOf : Yi yX12_lineOf := ⟨k_1305, k_61⟩
theorem I_X12_lined : Yi yX12_lined := ⟨k_1297, k_59⟩
theorem I_X12_linesOn : Yi yX12_linesOn := ⟨k_1225, k_47⟩
theorem I_X12_mark : Yi yX12_mark := ⟨k_1268, k_1269⟩
theorem I_X12_markOf : Yi yX12_markOf := ⟨k_1277, k_57⟩
theorem I_X12_marked : Yi yX12_marked := ⟨k_1360, k_1361⟩
theorem I_X12_meets : Yi yX12_meets := ⟨k_1380, k_1381⟩
theorem I_X12_member : Yi yX12_member := ⟨k_1424, k_1425⟩
theorem I_X12_number : Yi yX12_number := ⟨k_1352, k_1353⟩
theorem I_X12_numberOf : Yi yX12_numberOf := ⟨k_1309, k_62⟩
theorem I_X12_numeral : Yi yX12_numeral := ⟨k_1501, k_85⟩
theorem I_X12_on : Yi yX12_on := ⟨k_1368, k_1369⟩
theorem I_X12_only : Yi yX12_only := ⟨k_1432, k_1433⟩
theorem I_X12_passing : Yi yX12_passing := ⟨k_1428, k_1429⟩
theorem I_X12_pencil : Yi yX12_pencil := ⟨k_1392, k_1393⟩
theorem I_X12_place : Yi yX12_place := ⟨k_1348, k_1349⟩
theorem I_X12_places : Yi yX12_places := ⟨k_1229, k_48⟩
theorem I_X12_pointsOn : Yi yX12_pointsOn := ⟨k_1329, k_65⟩
theorem I_X12_polar : Yi yX12_polar := ⟨k_1372, k_1373⟩
theorem I_X12_polarOf : Yi yX12_polarOf := ⟨k_1345, k_69⟩
theorem I_X12_pole : Yi yX12_pole := ⟨k_1376, k_1377⟩
theorem I_X12_prime : Yi yX12_prime := ⟨k_1144, k_1145⟩
theorem I_X12_proper : Yi yX12_proper := ⟨k_1293, k_58⟩
theorem I_X12_rank : Yi yX12_rank := ⟨k_1217, k_45⟩
theorem I_X12_rankOf : Yi yX12_rankOf := ⟨k_1213, k_44⟩
theorem I_X12_rankWith : Yi yX12_rankWith := ⟨k_1261, k_54⟩
theorem I_X12_readsConic : Yi yX12_readsConic := ⟨k_1519, k_89⟩
theorem I_X12_readsLine : Yi yX12_readsLine := ⟨k_1484, k_81⟩
theorem I_X12_readsPoint : Yi yX12_readsPoint := ⟨k_1514, k_88⟩
theorem I_X12_readsPrime : Yi yX12_readsPrime := ⟨k_1493, k_83⟩
theorem I_X12_refused : Yi yX12_refused := ⟨k_1152, k_34⟩
theorem I_X12_rest : Yi yX12_rest := ⟨k_1205, k_42⟩
theorem I_X12_set : Yi yX12_set := ⟨k_1163, k_1164⟩
theorem I_X12_sided : Yi yX12_sided := ⟨k_1333, k_66⟩
theorem I_X12_signed : Yi yX12_signed := ⟨k_1523, k_90⟩
theorem I_X12_sort : Yi yX12_sort := ⟨k_1318, k_63⟩
theorem I_X12_sum : Yi yX12_sum := ⟨k_1192, k_1193⟩
theorem I_X12_takes : Yi yX12_takes := ⟨k_1461, k_78⟩
theorem I_X12_takesIts : Yi yX12_takesIts := ⟨k_1189, k_40⟩
theorem I_X12_tangent : Yi yX12_tangent := ⟨k_1384, k_1385⟩
theorem I_X12_tangents : Yi yX12_tangents := ⟨k_1341, k_68⟩
theorem I_X12_text : Yi yX12_text := ⟨k_1456, k_1457⟩
theorem I_X12_through : Yi yX12_through := ⟨k_1252, k_1253⟩
theorem I_X12_told : Yi yX12_told := ⟨k_1322, k_64⟩
theorem I_X12_touching : Yi yX12_touching := ⟨k_1421, k_77⟩
theorem I_X12_turn : Yi yX12_turn := ⟨k_1196, k_1197⟩
theorem I_X12_twist : Yi yX12_twist := ⟨k_1248, k_1249⟩
theorem I_X12_undo : Yi yX12_undo := ⟨k_1284, k_1285⟩
theorem I_X12_useful : Yi yX12_useful := ⟨k_1440, k_1441⟩
theorem I_X12_why : Yi yX12_why := ⟨k_1280, k_1281⟩
theorem I_X12_whyNot : Yi yX12_whyNot := ⟨k_1185, k_39⟩
theorem I_X1_firstOff : Yi yX1_firstOff := ⟨k_769, k_16⟩
theorem I_X1_gather : Yi yX1_gather := ⟨k_756, k_757⟩
theorem I_X1_isLessBy : Yi yX1_isLessBy := ⟨k_1047, k_1048⟩
theorem I_X1_pass : Yi yX1_pass := ⟨k_765, k_15⟩
theorem I_X1_readOne : Yi yX1_readOne := ⟨k_778, k_779⟩
theorem I_X3_blend : Yi yX3_blend := ⟨k_682, k_683⟩
theorem I_X3_change : Yi yX3_change := ⟨k_566, k_567⟩
theorem I_X3_copy : Yi yX3_copy := ⟨k_740, k_741⟩
theorem I_X3_d : Yi yX3_d := ⟨k_723, k_724⟩
theorem I_X3_e : Yi yX3_e := ⟨k_714, k_715⟩
theorem I_X3_fill : Yi yX3_fill := ⟨k_594, k_595⟩
theorem I_X3_i : Yi yX3_i := ⟨k_860, k_861⟩
theorem I_X3_isLike : Yi yX3_isLike := ⟨k_748, k_749⟩
theorem I_X3_isWithinLimit : Yi yX3_isWithinLimit := ⟨k_602, k_603⟩
theorem I_X3_isZero : Yi yX3_isZero := ⟨k_598, k_599⟩
theorem I_X3_multiply : Yi yX3_multiply := ⟨k_590, k_591⟩
theorem I_X3_nth : Yi yX3_nth := ⟨k_614, k_615⟩
theorem I_X3_reduce : Yi yX3_reduce := ⟨k_695, k_696⟩
theorem I_X3_sort : Yi yX3_sort := ⟨k_846, k_847⟩
theorem I_X3_sortOfFallen : Yi yX3_sortOfFallen := ⟨k_857, k_22⟩
theorem I_X3_sortOfWhole : Yi yX3_sortOfWhole := ⟨k_852, k_21⟩
theorem I_X3_twisted : Yi yX3_twisted := ⟨k_744, k_745⟩
theorem I_X4_copy : Yi yX4_copy := ⟨k_1059, k_1060⟩
theorem I_X5_forget : Yi yX5_forget := ⟨k_625, k_626⟩
theorem I_X5_giveBack : Yi yX5_giveBack := ⟨k_806, k_807⟩
theorem I_X5_keep : Yi yX5_keep := ⟨k_642, k_643⟩
theorem I_X6_fallen : Yi yX6_fallen := ⟨k_1011, k_1012⟩
theorem I_X6_firstThrough : Yi yX6_firstThrough := ⟨k_1035, k_1036⟩
theorem I_X6_isOfBase : Yi yX6_isOfBase := ⟨k_1002, k_31⟩
theorem I_X6_nthOfBase : Yi yX6_nthOfBase := ⟨k_996, k_997⟩
theorem I_X6_polarAtSpot : Yi yX6_polarAtSpot := ⟨k_1022, k_32⟩
theorem I_X6_sizeOfBase : Yi yX6_sizeOfBase := ⟨k_1007, k_1008⟩
theorem I_X6_take : Yi yX6_take := ⟨k_974, k_975⟩
theorem I_X6_takeMember : Yi yX6_takeMember := ⟨k_985, k_986⟩
theorem I_X6_touching : Yi yX6_touching := ⟨k_1017, k_1018⟩
theorem I_X7_advance : Yi yX7_advance := ⟨k_446, k_0⟩
theorem I_X7_canBe : Yi yX7_canBe := ⟨k_540, k_8⟩
theorem I_X7_carryOut : Yi yX7_carryOut := ⟨k_571, k_10⟩
theorem I_X7_fail : Yi yX7_fail := ⟨k_536, k_7⟩
theorem I_X7_lineKind : Yi yX7_lineKind := ⟨k_476, k_5⟩
theorem I_X7_read : Yi yX7_read := ⟨k_440, k_441⟩
theorem I_X7_readLine : Yi yX7_readLine := ⟨k_472, k_4⟩
theorem I_X7_readSix : Yi yX7_readSix := ⟨k_563, k_9⟩
theorem I_X7_skipBlanks : Yi yX7_skipBlanks := ⟨k_450, k_1⟩
theorem I_X7_takeDigits : Yi yX7_takeDigits := ⟨k_468, k_3⟩
theorem I_X7_takeWord : Yi yX7_takeWord := ⟨k_461, k_2⟩
theorem I_X7_tokenIs : Yi yX7_tokenIs := ⟨k_481, k_6⟩
theorem I_X8_addMark : Yi yX8_addMark := ⟨k_586, k_587⟩
theorem I_X8_changePrime : Yi yX8_changePrime := ⟨k_574, k_575⟩
theorem I_X8_clear : Yi yX8_clear := ⟨k_132, k_133⟩
theorem I_X8_copy : Yi yX8_copy := ⟨k_618, k_619⟩
theorem I_X8_dropMark : Yi yX8_dropMark := ⟨k_793, k_794⟩
theorem I_X8_isMarked : Yi yX8_isMarked := ⟨k_578, k_579⟩
theorem I_X8_markAt : Yi yX8_markAt := ⟨k_582, k_583⟩
theorem I_X8_read : Yi yX8_read := ⟨k_664, k_665⟩
theorem I_X8_write : Yi yX8_write := ⟨k_609, k_610⟩
theorem I_X9_addFour : Yi yX9_addFour := ⟨k_428, k_429⟩
theorem I_X9_byteAt : Yi yX9_byteAt := ⟨k_453, k_454⟩
theorem I_X9_copy : Yi yX9_copy := ⟨k_1064, k_1065⟩
theorem Y_J0_charAt_5068e : Yc yJ0_charAt_5068e cJ0_charAt_5068e 2 (some .char) 1 := ⟨k_496, k_104, by decide +kernel, by decide +kernel, by decide +kernel⟩
theorem Y_J0_checkIndex_df160 : Yc yJ0_checkIndex_df160 cJ0_checkIndex_df160 2 none 2 := ⟨k_506, k_104, by decide +kernel, by decide +kernel, by decide +kernel⟩
theorem Y_J0_coder_7d493 : Yc yJ0_coder_7d493 cJ0_coder_7d493 1 (some .byte) 0 := ⟨k_490, k_104, by decide +kernel, by decide +kernel, by decide +kernel⟩
theorem Y_J0_isLatin1_aae02 : Yc yJ0_isLatin1_aae02 cJ0_isLatin1_aae02 1 (some .boolean) 0 := ⟨k_500, k_104, by decide +kernel, by decide +kernel, by decide +kernel⟩
theorem Y_J0_length_8abf5 : Yc yJ0_length_8abf5 cJ0_length_8abf5 1 (some .int) 0 := ⟨k_486, k_104, by decide +kernel, by decide +kernel, by decide +kernel⟩
theorem Y_J1_charAt_3b067 : Yc yJ1_charAt_3b067 cJ1_charAt_3b067 2 (some .char) 2 := ⟨k_503, k_105, by decide +kernel, by decide +kernel, by decide +kernel⟩
theorem Y_J3_checkIndex_8e157 : Yc yJ3_checkIndex_8e157 cJ3_checkIndex_8e157 3 (some .int) 3 := ⟨k_511, k_106, by decide +kernel, by decide +kernel, by decide +kernel⟩
theorem Y_J9_floorMod_7cf53 : Yc yJ9_floorMod_7cf53 cJ9_floorMod_7cf53 3 (some .int) 2 := ⟨k_703, k_110, by decide +kernel, by decide +kernel, by decide +kernel⟩
theorem Y_J9_min_7cf53 : Yc yJ9_min_7cf53 cJ9_min_7cf53 2 (some .int) 2 := ⟨k_648, k_110, by decide +kernel, by decide +kernel, by decide +kernel⟩
theorem Y_X0_becomeDual : Yc yX0_becomeDual cX0_becomeDual 3 none 1 := ⟨k_733, k_101, by decide +kernel, by decide +kernel, by decide +kernel⟩
theorem Y_X0_crossings : Yc yX0_crossings cX0_crossings 4 (some .int) 1 := ⟨k_928, k_101, by decide +kernel, by decide +kernel, by decide +kernel⟩
theorem Y_X0_init : Yc yX0_init cX0_init 1 none 0 := ⟨k_317, k_101, by decide +kernel, by decide +kernel, by decide +kernel⟩
theorem Y_X0_isUnlike : Yc yX0_isUnlike cX0_isUnlike 5 (some .boolean) 1 := ⟨k_982, k_101, by decide +kernel, by decide +kernel, by decide +kernel⟩
theorem Y_X0_kind : Yc yX0_kind cX0_kind 2 (some .int) 0 := ⟨k_707, k_101, by decide +kernel, by decide +kernel, by decide +kernel⟩
theorem Y_X0_lines : Yc yX0_lines cX0_lines 1 (some .int) 0 := ⟨k_880, k_101, by decide +kernel, by decide +kernel, by decide +kernel⟩
theorem Y_X0_mix : Yc yX0_mix cX0_mix 4 none 3 := ⟨k_991, k_101, by decide +kernel, by decide +kernel, by decide +kernel⟩
theorem Y_X0_points : Yc yX0_points cX0_points 1 (some .int) 0 := ⟨k_874, k_101, by decide +kernel, by decide +kernel, by decide +kernel⟩
theorem Y_X0_polarOf : Yc yX0_polarOf cX0_polarOf 6 none 2 := ⟨k_923, k_101, by decide +kernel, by decide +kernel, by decide +kernel⟩
theorem Y_X0_rank : Yc yX0_rank cX0_rank 1 (some .int) 0 := ⟨k_711, k_101, by decide +kernel, by decide +kernel, by decide +kernel⟩
theorem Y_X0_sideMinor : Yc yX0_sideMinor cX0_sideMinor 3 (some .int) 0 := ⟨k_721, k_101, by decide +kernel, by decide +kernel, by decide +kernel⟩
theorem Y_X0_take : Yc yX0_take cX0_take 3 none 2 := ⟨k_692, k_101, by decide +kernel, by decide +kernel, by decide +kernel⟩
theorem Y_X0_valueAt : Yc yX0_valueAt cX0_valueAt 5 (some .int) 1 := ⟨k_774, k_101, by decide +kernel, by decide +kernel, by decide +kernel⟩
theorem Y_X0_zeros : Yc yX0_zeros cX0_zeros 8 (some .int) 3 := ⟨k_932, k_101, by decide +kernel, by decide +kernel, by decide +kernel⟩
theorem Y_X10_cross : Yc yX10_cross cX10_cross 3 none 2 := ⟨k_830, k_99, by decide +kernel, by decide +kernel, by decide +kernel⟩
theorem Y_X10_fill : Yc yX10_fill cX10_fill 4 none 3 := ⟨k_557, k_99, by decide +kernel, by decide +kernel, by decide +kernel⟩
theorem Y_X10_init : Yc yX10_init cX10_init 1 none 0 := ⟨k_261, k_99, by decide +kernel, by decide +kernel, by decide +kernel⟩
theorem Y_X10_isOn : Yc yX10_isOn cX10_isOn 3 (some .boolean) 2 := ⟨k_834, k_99, by decide +kernel, by decide +kernel, by decide +kernel⟩
theorem Y_X10_nth : Yc yX10_nth cX10_nth 2 (some .int) 1 := ⟨k_888, k_99, by decide +kernel, by decide +kernel, by decide +kernel⟩
theorem Y_X10_numbered : Yc yX10_numbered cX10_numbered 6 (some .int) 1 := ⟨k_897, k_99, by decide +kernel, by decide +kernel, by decide +kernel⟩
theorem Y_X10_take : Yc yX10_take cX10_take 3 (some .boolean) 2 := ⟨k_550, k_99, by decide +kernel, by decide +kernel, by decide +kernel⟩
theorem Y_X11_accept : Yc yX11_accept cX11_accept 1 (some .int) 0 := ⟨k_653, k_92, by decide +kernel, by decide +kernel, by decide +kernel⟩
theorem Y_X11_again : Yc yX11_again cX11_again 2 (some .boolean) 1 := ⟨k_1071, k_92, by decide +kernel, by decide +kernel, by decide +kernel⟩
theorem Y_X11_become : Yc yX11_become cX11_become 3 (some .int) 2 := ⟨k_673, k_92, by decide +kernel, by decide +kernel, by decide +kernel⟩
theorem Y_X11_conic : Yc yX11_conic cX11_conic 3 (some .int) 2 := ⟨k_839, k_92, by decide +kernel, by decide +kernel, by decide +kernel⟩
theorem Y_X11_count : Yc yX11_count cX11_count 2 (some .int) 1 := ⟨k_812, k_92, by decide +kernel, by decide +kernel, by decide +kernel⟩
theorem Y_X11_end : Yc yX11_end cX11_end 2 (some .int) 1 := ⟨k_434, k_92, by decide +kernel, by decide +kernel, by decide +kernel⟩
theorem Y_X11_fault : Yc yX11_fault cX11_fault 2 (some .int) 1 := ⟨k_631, k_92, by decide +kernel, by decide +kernel, by decide +kernel⟩
theorem Y_X11_feed : Yc yX11_feed cX11_feed 6 (some .int) 5 := ⟨k_426, k_92, by decide +kernel, by decide +kernel, by decide +kernel⟩
theorem Y_X11_freed : Yc yX11_freed cX11_freed 2 (some .int) 1 := ⟨k_1045, k_92, by decide +kernel, by decide +kernel, by decide +kernel⟩
theorem Y_X11_image : Yc yX11_image cX11_image 2 (some .boolean) 1 := ⟨k_1057, k_92, by decide +kernel, by decide +kernel, by decide +kernel⟩
theorem Y_X11_init : Yc yX11_init cX11_init 2 none 0 := ⟨k_115, k_92, by decide +kernel, by decide +kernel, by decide +kernel⟩
theorem Y_X11_isBeyond : Yc yX11_isBeyond cX11_isBeyond 1 (some .boolean) 1 := ⟨k_607, k_92, by decide +kernel, by decide +kernel, by decide +kernel⟩
theorem Y_X11_isConic : Yc yX11_isConic cX11_isConic 1 (some .boolean) 1 := ⟨k_560, k_92, by decide +kernel, by decide +kernel, by decide +kernel⟩
theorem Y_X11_isInLine : Yc yX11_isInLine cX11_isInLine 5 (some .boolean) 1 := ⟨k_825, k_92, by decide +kernel, by decide +kernel, by decide +kernel⟩
theorem Y_X11_isNumber : Yc yX11_isNumber cX11_isNumber 1 (some .boolean) 1 := ⟨k_661, k_92, by decide +kernel, by decide +kernel, by decide +kernel⟩
theorem Y_X11_isPrime : Yc yX11_isPrime cX11_isPrime 2 (some .boolean) 1 := ⟨k_544, k_92, by decide +kernel, by decide +kernel, by decide +kernel⟩
theorem Y_X11_joined : Yc yX11_joined cX11_joined 4 (some .int) 2 := ⟨k_902, k_92, by decide +kernel, by decide +kernel, by decide +kernel⟩
theorem Y_X11_lies : Yc yX11_lies cX11_lies 3 (some .int) 2 := ⟨k_910, k_92, by decide +kernel, by decide +kernel, by decide +kernel⟩
theorem Y_X11_mark : Yc yX11_mark cX11_mark 3 (some .int) 2 := ⟨k_789, k_92, by decide +kernel, by decide +kernel, by decide +kernel⟩
theorem Y_X11_marked : Yc yX11_marked cX11_marked 2 (some .int) 1 := ⟨k_906, k_92, by decide +kernel, by decide +kernel, by decide +kernel⟩
theorem Y_X11_marksInLine : Yc yX11_marksInLine cX11_marksInLine 3 (some .int) 0 := ⟨k_821, k_92, by decide +kernel, by decide +kernel, by decide +kernel⟩
theorem Y_X11_meets : Yc yX11_meets cX11_meets 3 (some .int) 2 := ⟨k_956, k_92, by decide +kernel, by decide +kernel, by decide +kernel⟩
theorem Y_X11_member : Yc yX11_member cX11_member 5 (some .int) 4 := ⟨k_1029, k_92, by decide +kernel, by decide +kernel, by decide +kernel⟩
theorem Y_X11_nthLineOn : Yc yX11_nthLineOn cX11_nthLineOn 5 (some .int) 1 := ⟨k_940, k_92, by decide +kernel, by decide +kernel, by decide +kernel⟩
theorem Y_X11_nthPointOn : Yc yX11_nthPointOn cX11_nthPointOn 5 (some .int) 1 := ⟨k_944, k_92, by decide +kernel, by decide +kernel, by decide +kernel⟩
theorem Y_X11_nthTangentThroughSpot : Yc yX11_nthTangentThroughSpot cX11_nthTangentThroughSpot 5 (some .int) 1 := ⟨k_964, k_92, by decide +kernel, by decide +kernel, by decide +kernel⟩
theorem Y_X11_number : Yc yX11_number cX11_number 4 (some .int) 3 := ⟨k_892, k_92, by decide +kernel, by decide +kernel, by decide +kernel⟩
theorem Y_X11_on : Yc yX11_on cX11_on 4 (some .int) 3 := ⟨k_936, k_92, by decide +kernel, by decide +kernel, by decide +kernel⟩
theorem Y_X11_only : Yc yX11_only cX11_only 2 (some .int) 1 := ⟨k_1041, k_92, by decide +kernel, by decide +kernel, by decide +kernel⟩
theorem Y_X11_overField : Yc yX11_overField cX11_overField 4 (some .int) 1 := ⟨k_870, k_92, by decide +kernel, by decide +kernel, by decide +kernel⟩
theorem Y_X11_overFractionsOrKind : Yc yX11_overFractionsOrKind cX11_overFractionsOrKind 2 (some .int) 1 := ⟨k_844, k_92, by decide +kernel, by decide +kernel, by decide +kernel⟩
theorem Y_X11_passing : Yc yX11_passing cX11_passing 4 (some .int) 3 := ⟨k_1033, k_92, by decide +kernel, by decide +kernel, by decide +kernel⟩
theorem Y_X11_pencil : Yc yX11_pencil cX11_pencil 4 (some .int) 3 := ⟨k_968, k_92, by decide +kernel, by decide +kernel, by decide +kernel⟩
theorem Y_X11_place : Yc yX11_place cX11_place 3 (some .int) 2 := ⟨k_884, k_92, by decide +kernel, by decide +kernel, by decide +kernel⟩
theorem Y_X11_polar : Yc yX11_polar cX11_polar 3 (some .int) 2 := ⟨k_948, k_92, by decide +kernel, by decide +kernel, by decide +kernel⟩
theorem Y_X11_pole : Yc yX11_pole cX11_pole 3 (some .int) 2 := ⟨k_952, k_92, by decide +kernel, by decide +kernel, by decide +kernel⟩
theorem Y_X11_prime : Yc yX11_prime cX11_prime 2 (some .int) 1 := ⟨k_635, k_92, by decide +kernel, by decide +kernel, by decide +kernel⟩
theorem Y_X11_properConics : Yc yX11_properConics cX11_properConics 3 (some .int) 0 := ⟨k_817, k_92, by decide +kernel, by decide +kernel, by decide +kernel⟩
theorem Y_X11_refuse : Yc yX11_refuse cX11_refuse 3 (some .int) 2 := ⟨k_640, k_92, by decide +kernel, by decide +kernel, by decide +kernel⟩
theorem Y_X11_set : Yc yX11_set cX11_set 4 (some .int) 3 := ⟨k_657, k_92, by decide +kernel, by decide +kernel, by decide +kernel⟩
theorem Y_X11_sum : Yc yX11_sum cX11_sum 6 (some .int) 5 := ⟨k_680, k_92, by decide +kernel, by decide +kernel, by decide +kernel⟩
theorem Y_X11_takeBoth : Yc yX11_takeBoth cX11_takeBoth 3 (some .boolean) 2 := ⟨k_914, k_92, by decide +kernel, by decide +kernel, by decide +kernel⟩
theorem Y_X11_takePencil : Yc yX11_takePencil cX11_takePencil 3 (some .boolean) 2 := ⟨k_972, k_92, by decide +kernel, by decide +kernel, by decide +kernel⟩
theorem Y_X11_tangent : Yc yX11_tangent cX11_tangent 4 (some .int) 3 := ⟨k_960, k_92, by decide +kernel, by decide +kernel, by decide +kernel⟩
theorem Y_X11_tangentsThroughSpot : Yc yX11_tangentsThroughSpot cX11_tangentsThroughSpot 2 (some .int) 0 := ⟨k_919, k_92, by decide +kernel, by decide +kernel, by decide +kernel⟩
theorem Y_X11_text : Yc yX11_text cX11_text 2 (some .int) 0 := ⟨k_438, k_92, by decide +kernel, by decide +kernel, by decide +kernel⟩
theorem Y_X11_through : Yc yX11_through cX11_through 2 (some .int) 1 := ⟨k_754, k_92, by decide +kernel, by decide +kernel, by decide +kernel⟩
theorem Y_X11_turn : Yc yX11_turn cX11_turn 4 (some .int) 2 := ⟨k_688, k_92, by decide +kernel, by decide +kernel, by decide +kernel⟩
theorem Y_X11_twist : Yc yX11_twist cX11_twist 3 (some .int) 2 := ⟨k_738, k_92, by decide +kernel, by decide +kernel, by decide +kernel⟩
theorem Y_X11_undo : Yc yX11_undo cX11_undo 1 (some .int) 0 := ⟨k_804, k_92, by decide +kernel, by decide +kernel, by decide +kernel⟩
theorem Y_X11_useful : Yc yX11_useful cX11_useful 4 (some .int) 0 := ⟨k_1053, k_92, by decide +kernel, by decide +kernel, by decide +kernel⟩
theorem Y_X11_why : Yc yX11_why cX11_why 2 (some .int) 1 := ⟨k_800, k_92, by decide +kernel, by decide +kernel, by decide +kernel⟩
theorem Y_X12_again : Yc yX12_again cX12_again 4 (some .boolean) 1 := ⟨k_1533, k_103, by decide +kernel, by decide +kernel, by decide +kernel⟩
theorem Y_X12_areOnLine : Yc yX12_areOnLine cX12_areOnLine 4 (some .boolean) 3 := ⟨k_1302, k_103, by decide +kernel, by decide +kernel, by decide +kernel⟩
theorem Y_X12_base : Yc yX12_base cX12_base 6 (some .int) 3 := ⟨k_1406, k_103, by decide +kernel, by decide +kernel, by decide +kernel⟩
theorem Y_X12_becomes : Yc yX12_becomes cX12_becomes 3 (some .int) 1 := ⟨k_1182, k_103, by decide +kernel, by decide +kernel, by decide +kernel⟩
theorem Y_X12_byteAt : Yc yX12_byteAt cX12_byteAt 2 (some .int) 1 := ⟨k_1466, k_103, by decide +kernel, by decide +kernel, by decide +kernel⟩
theorem Y_X12_conic : Yc yX12_conic cX12_conic 3 (some .int) 2 := ⟨k_1314, k_103, by decide +kernel, by decide +kernel, by decide +kernel⟩
theorem Y_X12_copies : Yc yX12_copies cX12_copies 5 none 3 := ⟨k_1161, k_103, by decide +kernel, by decide +kernel, by decide +kernel⟩
theorem Y_X12_count : Yc yX12_count cX12_count 2 (some .int) 1 := ⟨k_1290, k_103, by decide +kernel, by decide +kernel, by decide +kernel⟩
theorem Y_X12_end : Yc yX12_end cX12_end 2 (some .int) 1 := ⟨k_1450, k_103, by decide +kernel, by decide +kernel, by decide +kernel⟩
theorem Y_X12_ends : Yc yX12_ends cX12_ends 1 none 0 := ⟨k_1506, k_103, by decide +kernel, by decide +kernel, by decide +kernel⟩
theorem Y_X12_fails : Yc yX12_fails cX12_fails 3 none 2 := ⟨k_1498, k_103, by decide +kernel, by decide +kernel, by decide +kernel⟩
theorem Y_X12_fallen : Yc yX12_fallen cX12_fallen 5 (some .int) 2 := ⟨k_1414, k_103, by decide +kernel, by decide +kernel, by decide +kernel⟩
theorem Y_X12_fault : Yc yX12_fault cX12_fault 2 (some .int) 1 := ⟨k_1454, k_103, by decide +kernel, by decide +kernel, by decide +kernel⟩
theorem Y_X12_feed : Yc yX12_feed cX12_feed 8 (some .int) 5 := ⟨k_1446, k_103, by decide +kernel, by decide +kernel, by decide +kernel⟩
theorem Y_X12_firsts : Yc yX12_firsts cX12_firsts 3 none 1 := ⟨k_1081, k_103, by decide +kernel, by decide +kernel, by decide +kernel⟩
theorem Y_X12_freed : Yc yX12_freed cX12_freed 2 (some .int) 1 := ⟨k_1438, k_103, by decide +kernel, by decide +kernel, by decide +kernel⟩
theorem Y_X12_hasOne : Yc yX12_hasOne cX12_hasOne 6 (some .boolean) 0 := ⟨k_1258, k_103, by decide +kernel, by decide +kernel, by decide +kernel⟩
theorem Y_X12_hasSign : Yc yX12_hasSign cX12_hasSign 3 (some .boolean) 1 := ⟨k_1510, k_103, by decide +kernel, by decide +kernel, by decide +kernel⟩
theorem Y_X12_hasWord : Yc yX12_hasWord cX12_hasWord 4 (some .boolean) 1 := ⟨k_1490, k_103, by decide +kernel, by decide +kernel, by decide +kernel⟩
theorem Y_X12_image : Yc yX12_image cX12_image 4 (some .boolean) 1 := ⟨k_1529, k_103, by decide +kernel, by decide +kernel, by decide +kernel⟩
theorem Y_X12_init : Yc yX12_init cX12_init 1 none 0 := ⟨k_1076, k_103, by decide +kernel, by decide +kernel, by decide +kernel⟩
theorem Y_X12_inverse : Yc yX12_inverse cX12_inverse 3 (some .int) 1 := ⟨k_1222, k_103, by decide +kernel, by decide +kernel, by decide +kernel⟩
theorem Y_X12_isBase : Yc yX12_isBase cX12_isBase 5 (some .boolean) 3 := ⟨k_1410, k_103, by decide +kernel, by decide +kernel, by decide +kernel⟩
theorem Y_X12_isConic : Yc yX12_isConic cX12_isConic 1 (some .boolean) 1 := ⟨k_1168, k_103, by decide +kernel, by decide +kernel, by decide +kernel⟩
theorem Y_X12_isDigit : Yc yX12_isDigit cX12_isDigit 1 (some .boolean) 1 := ⟨k_1475, k_103, by decide +kernel, by decide +kernel, by decide +kernel⟩
theorem Y_X12_isGood : Yc yX12_isGood cX12_isGood 1 (some .boolean) 0 := ⟨k_1481, k_103, by decide +kernel, by decide +kernel, by decide +kernel⟩
theorem Y_X12_isIn : Yc yX12_isIn cX12_isIn 3 (some .boolean) 3 := ⟨k_1171, k_103, by decide +kernel, by decide +kernel, by decide +kernel⟩
theorem Y_X12_isLetter : Yc yX12_isLetter cX12_isLetter 1 (some .boolean) 1 := ⟨k_1469, k_103, by decide +kernel, by decide +kernel, by decide +kernel⟩
theorem Y_X12_isOfAll : Yc yX12_isOfAll cX12_isOfAll 3 (some .boolean) 1 := ⟨k_1234, k_103, by decide +kernel, by decide +kernel, by decide +kernel⟩
theorem Y_X12_isOn : Yc yX12_isOn cX12_isOn 2 (some .boolean) 1 := ⟨k_1246, k_103, by decide +kernel, by decide +kernel, by decide +kernel⟩
theorem Y_X12_isOnLine : Yc yX12_isOnLine cX12_isOnLine 6 (some .boolean) 2 := ⟨k_1238, k_103, by decide +kernel, by decide +kernel, by decide +kernel⟩
theorem Y_X12_isPencil : Yc yX12_isPencil cX12_isPencil 6 (some .boolean) 2 := ⟨k_1398, k_103, by decide +kernel, by decide +kernel, by decide +kernel⟩
theorem Y_X12_isPlace : Yc yX12_isPlace cX12_isPlace 2 (some .boolean) 1 := ⟨k_1274, k_103, by decide +kernel, by decide +kernel, by decide +kernel⟩
theorem Y_X12_isPrime : Yc yX12_isPrime cX12_isPrime 1 (some .boolean) 1 := ⟨k_1149, k_103, by decide +kernel, by decide +kernel, by decide +kernel⟩
theorem Y_X12_isShort : Yc yX12_isShort cX12_isShort 1 (some .boolean) 1 := ⟨k_1174, k_103, by decide +kernel, by decide +kernel, by decide +kernel⟩
theorem Y_X12_isTangent : Yc yX12_isTangent cX12_isTangent 3 (some .boolean) 1 := ⟨k_1390, k_103, by decide +kernel, by decide +kernel, by decide +kernel⟩
theorem Y_X12_isVoid : Yc yX12_isVoid cX12_isVoid 3 (some .boolean) 0 := ⟨k_1402, k_103, by decide +kernel, by decide +kernel, by decide +kernel⟩
theorem Y_X12_joined : Yc yX12_joined cX12_joined 3 (some .int) 2 := ⟨k_1358, k_103, by decide +kernel, by decide +kernel, by decide +kernel⟩
theorem Y_X12_keeps : Yc yX12_keeps cX12_keeps 1 none 0 := ⟨k_1157, k_103, by decide +kernel, by decide +kernel, by decide +kernel⟩
theorem Y_X12_kindOf : Yc yX12_kindOf cX12_kindOf 2 (some .int) 0 := ⟨k_1210, k_103, by decide +kernel, by decide +kernel, by decide +kernel⟩
theorem Y_X12_laysConic : Yc yX12_laysConic cX12_laysConic 4 none 2 := ⟨k_1202, k_103, by decide +kernel, by decide +kernel, by decide +kernel⟩
theorem Y_X12_laysIts : Yc yX12_laysIts cX12_laysIts 3 none 1 := ⟨k_1178, k_103, by decide +kernel, by decide +kernel, by decide +kernel⟩
theorem Y_X12_laysMark : Yc yX12_laysMark cX12_laysMark 3 none 2 := ⟨k_1266, k_103, by decide +kernel, by decide +kernel, by decide +kernel⟩
theorem Y_X12_laysMember : Yc yX12_laysMember cX12_laysMember 7 none 3 := ⟨k_1418, k_103, by decide +kernel, by decide +kernel, by decide +kernel⟩
theorem Y_X12_laysPlace : Yc yX12_laysPlace cX12_laysPlace 2 none 1 := ⟨k_1242, k_103, by decide +kernel, by decide +kernel, by decide +kernel⟩
theorem Y_X12_lies : Yc yX12_lies cX12_lies 3 (some .int) 2 := ⟨k_1366, k_103, by decide +kernel, by decide +kernel, by decide +kernel⟩
theorem Y_X12_liesOf : Yc yX12_liesOf cX12_liesOf 3 (some .int) 2 := ⟨k_1338, k_103, by decide +kernel, by decide +kernel, by decide +kernel⟩
theorem Y_X12_lineOf : Yc yX12_lineOf cX12_lineOf 6 (some .int) 2 := ⟨k_1306, k_103, by decide +kernel, by decide +kernel, by decide +kernel⟩
theorem Y_X12_lined : Yc yX12_lined cX12_lined 6 (some .int) 0 := ⟨k_1298, k_103, by decide +kernel, by decide +kernel, by decide +kernel⟩
theorem Y_X12_linesOn : Yc yX12_linesOn cX12_linesOn 3 (some .int) 0 := ⟨k_1226, k_103, by decide +kernel, by decide +kernel, by decide +kernel⟩
theorem Y_X12_mark : Yc yX12_mark cX12_mark 4 (some .int) 2 := ⟨k_1270, k_103, by decide +kernel, by decide +kernel, by decide +kernel⟩
theorem Y_X12_markOf : Yc yX12_markOf cX12_markOf 4 (some .int) 2 := ⟨k_1278, k_103, by decide +kernel, by decide +kernel, by decide +kernel⟩
theorem Y_X12_marked : Yc yX12_marked cX12_marked 2 (some .int) 1 := ⟨k_1362, k_103, by decide +kernel, by decide +kernel, by decide +kernel⟩
theorem Y_X12_meets : Yc yX12_meets cX12_meets 5 (some .int) 2 := ⟨k_1382, k_103, by decide +kernel, by decide +kernel, by decide +kernel⟩
theorem Y_X12_member : Yc yX12_member cX12_member 5 (some .int) 4 := ⟨k_1426, k_103, by decide +kernel, by decide +kernel, by decide +kernel⟩
theorem Y_X12_number : Yc yX12_number cX12_number 4 (some .int) 3 := ⟨k_1354, k_103, by decide +kernel, by decide +kernel, by decide +kernel⟩
theorem Y_X12_numberOf : Yc yX12_numberOf cX12_numberOf 7 (some .int) 3 := ⟨k_1310, k_103, by decide +kernel, by decide +kernel, by decide +kernel⟩
theorem Y_X12_numeral : Yc yX12_numeral cX12_numeral 3 (some .int) 1 := ⟨k_1502, k_103, by decide +kernel, by decide +kernel, by decide +kernel⟩
theorem Y_X12_on : Yc yX12_on cX12_on 6 (some .int) 3 := ⟨k_1370, k_103, by decide +kernel, by decide +kernel, by decide +kernel⟩
theorem Y_X12_only : Yc yX12_only cX12_only 2 (some .int) 1 := ⟨k_1434, k_103, by decide +kernel, by decide +kernel, by decide +kernel⟩
theorem Y_X12_passing : Yc yX12_passing cX12_passing 5 (some .int) 3 := ⟨k_1430, k_103, by decide +kernel, by decide +kernel, by decide +kernel⟩
theorem Y_X12_pencil : Yc yX12_pencil cX12_pencil 5 (some .int) 3 := ⟨k_1394, k_103, by decide +kernel, by decide +kernel, by decide +kernel⟩
theorem Y_X12_place : Yc yX12_place cX12_place 3 (some .int) 2 := ⟨k_1350, k_103, by decide +kernel, by decide +kernel, by decide +kernel⟩
theorem Y_X12_places : Yc yX12_places cX12_places 1 (some .int) 0 := ⟨k_1230, k_103, by decide +kernel, by decide +kernel, by decide +kernel⟩
theorem Y_X12_pointsOn : Yc yX12_pointsOn cX12_pointsOn 3 (some .int) 0 := ⟨k_1330, k_103, by decide +kernel, by decide +kernel, by decide +kernel⟩
theorem Y_X12_polar : Yc yX12_polar cX12_polar 3 (some .int) 2 := ⟨k_1374, k_103, by decide +kernel, by decide +kernel, by decide +kernel⟩
theorem Y_X12_polarOf : Yc yX12_polarOf cX12_polarOf 5 (some .int) 1 := ⟨k_1346, k_103, by decide +kernel, by decide +kernel, by decide +kernel⟩
theorem Y_X12_pole : Yc yX12_pole cX12_pole 4 (some .int) 2 := ⟨k_1378, k_103, by decide +kernel, by decide +kernel, by decide +kernel⟩
theorem Y_X12_prime : Yc yX12_prime cX12_prime 2 (some .int) 1 := ⟨k_1146, k_103, by decide +kernel, by decide +kernel, by decide +kernel⟩
theorem Y_X12_proper : Yc yX12_proper cX12_proper 3 (some .int) 0 := ⟨k_1294, k_103, by decide +kernel, by decide +kernel, by decide +kernel⟩
theorem Y_X12_rank : Yc yX12_rank cX12_rank 10 (some .int) 2 := ⟨k_1218, k_103, by decide +kernel, by decide +kernel, by decide +kernel⟩
theorem Y_X12_rankOf : Yc yX12_rankOf cX12_rankOf 1 (some .int) 0 := ⟨k_1214, k_103, by decide +kernel, by decide +kernel, by decide +kernel⟩
theorem Y_X12_rankWith : Yc yX12_rankWith cX12_rankWith 4 (some .int) 1 := ⟨k_1262, k_103, by decide +kernel, by decide +kernel, by decide +kernel⟩
theorem Y_X12_readsConic : Yc yX12_readsConic cX12_readsConic 5 none 2 := ⟨k_1520, k_103, by decide +kernel, by decide +kernel, by decide +kernel⟩
theorem Y_X12_readsLine : Yc yX12_readsLine cX12_readsLine 2 none 0 := ⟨k_1485, k_103, by decide +kernel, by decide +kernel, by decide +kernel⟩
theorem Y_X12_readsPoint : Yc yX12_readsPoint cX12_readsPoint 3 none 1 := ⟨k_1515, k_103, by decide +kernel, by decide +kernel, by decide +kernel⟩
theorem Y_X12_readsPrime : Yc yX12_readsPrime cX12_readsPrime 2 none 0 := ⟨k_1494, k_103, by decide +kernel, by decide +kernel, by decide +kernel⟩
theorem Y_X12_refused : Yc yX12_refused cX12_refused 3 (some .int) 2 := ⟨k_1153, k_103, by decide +kernel, by decide +kernel, by decide +kernel⟩
theorem Y_X12_rest : Yc yX12_rest cX12_rest 2 (some .int) 1 := ⟨k_1206, k_103, by decide +kernel, by decide +kernel, by decide +kernel⟩
theorem Y_X12_set : Yc yX12_set cX12_set 4 (some .int) 3 := ⟨k_1165, k_103, by decide +kernel, by decide +kernel, by decide +kernel⟩
theorem Y_X12_sided : Yc yX12_sided cX12_sided 4 (some .int) 1 := ⟨k_1334, k_103, by decide +kernel, by decide +kernel, by decide +kernel⟩
theorem Y_X12_signed : Yc yX12_signed cX12_signed 3 (some .int) 0 := ⟨k_1524, k_103, by decide +kernel, by decide +kernel, by decide +kernel⟩
theorem Y_X12_sort : Yc yX12_sort cX12_sort 6 (some .int) 1 := ⟨k_1319, k_103, by decide +kernel, by decide +kernel, by decide +kernel⟩
theorem Y_X12_sum : Yc yX12_sum cX12_sum 7 (some .int) 5 := ⟨k_1194, k_103, by decide +kernel, by decide +kernel, by decide +kernel⟩
theorem Y_X12_takes : Yc yX12_takes cX12_takes 2 none 0 := ⟨k_1462, k_103, by decide +kernel, by decide +kernel, by decide +kernel⟩
theorem Y_X12_takesIts : Yc yX12_takesIts cX12_takesIts 4 none 2 := ⟨k_1190, k_103, by decide +kernel, by decide +kernel, by decide +kernel⟩
theorem Y_X12_tangent : Yc yX12_tangent cX12_tangent 6 (some .int) 3 := ⟨k_1386, k_103, by decide +kernel, by decide +kernel, by decide +kernel⟩
theorem Y_X12_tangents : Yc yX12_tangents cX12_tangents 4 (some .int) 1 := ⟨k_1342, k_103, by decide +kernel, by decide +kernel, by decide +kernel⟩
theorem Y_X12_text : Yc yX12_text cX12_text 2 (some .int) 0 := ⟨k_1458, k_103, by decide +kernel, by decide +kernel, by decide +kernel⟩
theorem Y_X12_through : Yc yX12_through cX12_through 2 (some .int) 1 := ⟨k_1254, k_103, by decide +kernel, by decide +kernel, by decide +kernel⟩
theorem Y_X12_told : Yc yX12_told cX12_told 10 (some .int) 2 := ⟨k_1323, k_103, by decide +kernel, by decide +kernel, by decide +kernel⟩
theorem Y_X12_touching : Yc yX12_touching cX12_touching 7 (some .int) 2 := ⟨k_1422, k_103, by decide +kernel, by decide +kernel, by decide +kernel⟩
theorem Y_X12_turn : Yc yX12_turn cX12_turn 4 (some .int) 2 := ⟨k_1198, k_103, by decide +kernel, by decide +kernel, by decide +kernel⟩
theorem Y_X12_turned : Yc yX12_turned cX12_turned 2 (some .int) 2 := ⟨k_1326, k_103, by decide +kernel, by decide +kernel, by decide +kernel⟩
theorem Y_X12_twist : Yc yX12_twist cX12_twist 6 (some .int) 2 := ⟨k_1250, k_103, by decide +kernel, by decide +kernel, by decide +kernel⟩
theorem Y_X12_undo : Yc yX12_undo cX12_undo 1 (some .int) 0 := ⟨k_1286, k_103, by decide +kernel, by decide +kernel, by decide +kernel⟩
theorem Y_X12_useful : Yc yX12_useful cX12_useful 4 (some .int) 0 := ⟨k_1442, k_103, by decide +kernel, by decide +kernel, by decide +kernel⟩
theorem Y_X12_why : Yc yX12_why cX12_why 2 (some .int) 1 := ⟨k_1282, k_103, by decide +kernel, by decide +kernel, by decide +kernel⟩
theorem Y_X12_whyNot : Yc yX12_whyNot cX12_whyNot 3 (some .int) 0 := ⟨k_1186, k_103, by decide +kernel, by decide +kernel, by decide +kernel⟩
theorem Y_X1_firstOff : Yc yX1_firstOff cX1_firstOff 3 (some .int) 1 := ⟨k_770, k_102, by decide +kernel, by decide +kernel, by decide +kernel⟩
theorem Y_X1_gather : Yc yX1_gather cX1_gather 3 none 1 := ⟨k_758, k_102, by decide +kernel, by decide +kernel, by decide +kernel⟩
theorem Y_X1_init : Yc yX1_init cX1_init 2 none 0 := ⟨k_356, k_102, by decide +kernel, by decide +kernel, by decide +kernel⟩
theorem Y_X1_isLessBy : Yc yX1_isLessBy cX1_isLessBy 2 (some .boolean) 1 := ⟨k_1049, k_102, by decide +kernel, by decide +kernel, by decide +kernel⟩
theorem Y_X1_pass : Yc yX1_pass cX1_pass 5 none 0 := ⟨k_766, k_102, by decide +kernel, by decide +kernel, by decide +kernel⟩
theorem Y_X1_readOne : Yc yX1_readOne cX1_readOne 6 none 1 := ⟨k_780, k_102, by decide +kernel, by decide +kernel, by decide +kernel⟩
theorem Y_X2_inverse : Yc yX2_inverse cX2_inverse 3 (some .int) 2 := ⟨k_785, k_108, by decide +kernel, by decide +kernel, by decide +kernel⟩
theorem Y_X2_isSquare : Yc yX2_isSquare cX2_isSquare 4 (some .boolean) 2 := ⟨k_728, k_108, by decide +kernel, by decide +kernel, by decide +kernel⟩
theorem Y_X2_points : Yc yX2_points cX2_points 1 (some .int) 1 := ⟨k_553, k_108, by decide +kernel, by decide +kernel, by decide +kernel⟩
theorem Y_X2_rest : Yc yX2_rest cX2_rest 2 (some .int) 2 := ⟨k_700, k_108, by decide +kernel, by decide +kernel, by decide +kernel⟩
theorem Y_X3_blend : Yc yX3_blend cX3_blend 4 none 3 := ⟨k_684, k_98, by decide +kernel, by decide +kernel, by decide +kernel⟩
theorem Y_X3_change : Yc yX3_change cX3_change 3 none 2 := ⟨k_568, k_98, by decide +kernel, by decide +kernel, by decide +kernel⟩
theorem Y_X3_copy : Yc yX3_copy cX3_copy 2 none 1 := ⟨k_742, k_98, by decide +kernel, by decide +kernel, by decide +kernel⟩
theorem Y_X3_d : Yc yX3_d cX3_d 1 (some .int) 0 := ⟨k_725, k_98, by decide +kernel, by decide +kernel, by decide +kernel⟩
theorem Y_X3_e : Yc yX3_e cX3_e 1 (some .int) 0 := ⟨k_716, k_98, by decide +kernel, by decide +kernel, by decide +kernel⟩
theorem Y_X3_fill : Yc yX3_fill cX3_fill 7 none 6 := ⟨k_596, k_98, by decide +kernel, by decide +kernel, by decide +kernel⟩
theorem Y_X3_i : Yc yX3_i cX3_i 1 (some .int) 0 := ⟨k_862, k_98, by decide +kernel, by decide +kernel, by decide +kernel⟩
theorem Y_X3_init : Yc yX3_init cX3_init 1 none 0 := ⟨k_229, k_98, by decide +kernel, by decide +kernel, by decide +kernel⟩
theorem Y_X3_isLike : Yc yX3_isLike cX3_isLike 2 (some .boolean) 1 := ⟨k_750, k_98, by decide +kernel, by decide +kernel, by decide +kernel⟩
theorem Y_X3_isWithinLimit : Yc yX3_isWithinLimit cX3_isWithinLimit 1 (some .boolean) 0 := ⟨k_604, k_98, by decide +kernel, by decide +kernel, by decide +kernel⟩
theorem Y_X3_isZero : Yc yX3_isZero cX3_isZero 1 (some .boolean) 0 := ⟨k_600, k_98, by decide +kernel, by decide +kernel, by decide +kernel⟩
theorem Y_X3_multiply : Yc yX3_multiply cX3_multiply 1 none 0 := ⟨k_592, k_98, by decide +kernel, by decide +kernel, by decide +kernel⟩
theorem Y_X3_nth : Yc yX3_nth cX3_nth 2 (some .int) 1 := ⟨k_616, k_98, by decide +kernel, by decide +kernel, by decide +kernel⟩
theorem Y_X3_reduce : Yc yX3_reduce cX3_reduce 2 none 1 := ⟨k_697, k_98, by decide +kernel, by decide +kernel, by decide +kernel⟩
theorem Y_X3_sort : Yc yX3_sort cX3_sort 1 (some .int) 0 := ⟨k_848, k_98, by decide +kernel, by decide +kernel, by decide +kernel⟩
theorem Y_X3_sortOfFallen : Yc yX3_sortOfFallen cX3_sortOfFallen 1 (some .int) 0 := ⟨k_858, k_98, by decide +kernel, by decide +kernel, by decide +kernel⟩
theorem Y_X3_sortOfWhole : Yc yX3_sortOfWhole cX3_sortOfWhole 1 (some .int) 0 := ⟨k_853, k_98, by decide +kernel, by decide +kernel, by decide +kernel⟩
theorem Y_X3_twisted : Yc yX3_twisted cX3_twisted 2 none 1 := ⟨k_746, k_98, by decide +kernel, by decide +kernel, by decide +kernel⟩
theorem Y_X4_copy : Yc yX4_copy cX4_copy 2 none 1 := ⟨k_1061, k_93, by decide +kernel, by decide +kernel, by decide +kernel⟩
theorem Y_X4_init : Yc yX4_init cX4_init 1 none 0 := ⟨k_123, k_93, by decide +kernel, by decide +kernel, by decide +kernel⟩
theorem Y_X5_forget : Yc yX5_forget cX5_forget 1 none 0 := ⟨k_627, k_96, by decide +kernel, by decide +kernel, by decide +kernel⟩
theorem Y_X5_giveBack : Yc yX5_giveBack cX5_giveBack 3 (some .boolean) 1 := ⟨k_808, k_96, by decide +kernel, by decide +kernel, by decide +kernel⟩
theorem Y_X5_init : Yc yX5_init cX5_init 2 none 0 := ⟨k_200, k_96, by decide +kernel, by decide +kernel, by decide +kernel⟩
theorem Y_X5_keep : Yc yX5_keep cX5_keep 2 none 1 := ⟨k_644, k_96, by decide +kernel, by decide +kernel, by decide +kernel⟩
theorem Y_X6_fallen : Yc yX6_fallen cX6_fallen 3 (some .int) 0 := ⟨k_1013, k_100, by decide +kernel, by decide +kernel, by decide +kernel⟩
theorem Y_X6_firstThrough : Yc yX6_firstThrough cX6_firstThrough 3 (some .int) 1 := ⟨k_1037, k_100, by decide +kernel, by decide +kernel, by decide +kernel⟩
theorem Y_X6_init : Yc yX6_init cX6_init 1 none 0 := ⟨k_311, k_100, by decide +kernel, by decide +kernel, by decide +kernel⟩
theorem Y_X6_isOfBase : Yc yX6_isOfBase cX6_isOfBase 2 (some .boolean) 1 := ⟨k_1003, k_100, by decide +kernel, by decide +kernel, by decide +kernel⟩
theorem Y_X6_nthOfBase : Yc yX6_nthOfBase cX6_nthOfBase 4 (some .int) 1 := ⟨k_998, k_100, by decide +kernel, by decide +kernel, by decide +kernel⟩
theorem Y_X6_polarAtSpot : Yc yX6_polarAtSpot cX6_polarAtSpot 2 (some .int) 1 := ⟨k_1023, k_100, by decide +kernel, by decide +kernel, by decide +kernel⟩
theorem Y_X6_sizeOfBase : Yc yX6_sizeOfBase cX6_sizeOfBase 3 (some .int) 0 := ⟨k_1009, k_100, by decide +kernel, by decide +kernel, by decide +kernel⟩
theorem Y_X6_take : Yc yX6_take cX6_take 4 (some .boolean) 3 := ⟨k_976, k_100, by decide +kernel, by decide +kernel, by decide +kernel⟩
theorem Y_X6_takeMember : Yc yX6_takeMember cX6_takeMember 2 (some .boolean) 1 := ⟨k_987, k_100, by decide +kernel, by decide +kernel, by decide +kernel⟩
theorem Y_X6_touching : Yc yX6_touching cX6_touching 3 (some .int) 0 := ⟨k_1019, k_100, by decide +kernel, by decide +kernel, by decide +kernel⟩
theorem Y_X7_advance : Yc yX7_advance cX7_advance 3 none 1 := ⟨k_447, k_97, by decide +kernel, by decide +kernel, by decide +kernel⟩
theorem Y_X7_canBe : Yc yX7_canBe cX7_canBe 3 (some .boolean) 2 := ⟨k_541, k_97, by decide +kernel, by decide +kernel, by decide +kernel⟩
theorem Y_X7_carryOut : Yc yX7_carryOut cX7_carryOut 4 (some .boolean) 2 := ⟨k_572, k_97, by decide +kernel, by decide +kernel, by decide +kernel⟩
theorem Y_X7_fail : Yc yX7_fail cX7_fail 3 (some .boolean) 2 := ⟨k_537, k_97, by decide +kernel, by decide +kernel, by decide +kernel⟩
theorem Y_X7_init : Yc yX7_init cX7_init 1 none 0 := ⟨k_221, k_97, by decide +kernel, by decide +kernel, by decide +kernel⟩
theorem Y_X7_isDigit : Yc yX7_isDigit cX7_isDigit 1 (some .boolean) 1 := ⟨k_465, k_97, by decide +kernel, by decide +kernel, by decide +kernel⟩
theorem Y_X7_isLetter : Yc yX7_isLetter cX7_isLetter 1 (some .boolean) 1 := ⟨k_458, k_97, by decide +kernel, by decide +kernel, by decide +kernel⟩
theorem Y_X7_lineKind : Yc yX7_lineKind cX7_lineKind 2 (some .int) 1 := ⟨k_477, k_97, by decide +kernel, by decide +kernel, by decide +kernel⟩
theorem Y_X7_read : Yc yX7_read cX7_read 4 (some .int) 1 := ⟨k_442, k_97, by decide +kernel, by decide +kernel, by decide +kernel⟩
theorem Y_X7_readLine : Yc yX7_readLine cX7_readLine 5 (some .boolean) 1 := ⟨k_473, k_97, by decide +kernel, by decide +kernel, by decide +kernel⟩
theorem Y_X7_readSix : Yc yX7_readSix cX7_readSix 4 (some .boolean) 1 := ⟨k_564, k_97, by decide +kernel, by decide +kernel, by decide +kernel⟩
theorem Y_X7_skipBlanks : Yc yX7_skipBlanks cX7_skipBlanks 4 none 1 := ⟨k_451, k_97, by decide +kernel, by decide +kernel, by decide +kernel⟩
theorem Y_X7_takeDigits : Yc yX7_takeDigits cX7_takeDigits 3 none 1 := ⟨k_469, k_97, by decide +kernel, by decide +kernel, by decide +kernel⟩
theorem Y_X7_takeWord : Yc yX7_takeWord cX7_takeWord 3 none 1 := ⟨k_462, k_97, by decide +kernel, by decide +kernel, by decide +kernel⟩
theorem Y_X7_tokenIs : Yc yX7_tokenIs cX7_tokenIs 4 (some .boolean) 2 := ⟨k_482, k_97, by decide +kernel, by decide +kernel, by decide +kernel⟩
theorem Y_X8_addMark : Yc yX8_addMark cX8_addMark 2 none 1 := ⟨k_588, k_94, by decide +kernel, by decide +kernel, by decide +kernel⟩
theorem Y_X8_changePrime : Yc yX8_changePrime cX8_changePrime 2 none 1 := ⟨k_576, k_94, by decide +kernel, by decide +kernel, by decide +kernel⟩
theorem Y_X8_clear : Yc yX8_clear cX8_clear 2 none 0 := ⟨k_134, k_94, by decide +kernel, by decide +kernel, by decide +kernel⟩
theorem Y_X8_copy : Yc yX8_copy cX8_copy 2 none 1 := ⟨k_620, k_94, by decide +kernel, by decide +kernel, by decide +kernel⟩
theorem Y_X8_dropMark : Yc yX8_dropMark cX8_dropMark 4 none 1 := ⟨k_795, k_94, by decide +kernel, by decide +kernel, by decide +kernel⟩
theorem Y_X8_init : Yc yX8_init cX8_init 1 none 0 := ⟨k_129, k_94, by decide +kernel, by decide +kernel, by decide +kernel⟩
theorem Y_X8_isMarked : Yc yX8_isMarked cX8_isMarked 3 (some .boolean) 1 := ⟨k_580, k_94, by decide +kernel, by decide +kernel, by decide +kernel⟩
theorem Y_X8_markAt : Yc yX8_markAt cX8_markAt 2 (some .int) 1 := ⟨k_584, k_94, by decide +kernel, by decide +kernel, by decide +kernel⟩
theorem Y_X8_read : Yc yX8_read cX8_read 4 none 2 := ⟨k_666, k_94, by decide +kernel, by decide +kernel, by decide +kernel⟩
theorem Y_X8_write : Yc yX8_write cX8_write 4 none 2 := ⟨k_611, k_94, by decide +kernel, by decide +kernel, by decide +kernel⟩
theorem Y_X9_addFour : Yc yX9_addFour cX9_addFour 3 none 1 := ⟨k_430, k_95, by decide +kernel, by decide +kernel, by decide +kernel⟩
theorem Y_X9_byteAt : Yc yX9_byteAt cX9_byteAt 2 (some .int) 1 := ⟨k_455, k_95, by decide +kernel, by decide +kernel, by decide +kernel⟩
theorem Y_X9_copy : Yc yX9_copy cX9_copy 2 none 1 := ⟨k_1066, k_95, by decide +kernel, by decide +kernel, by decide +kernel⟩
theorem Y_X9_init : Yc yX9_init cX9_init 1 none 0 := ⟨k_160, k_95, by decide +kernel, by decide +kernel, by decide +kernel⟩
