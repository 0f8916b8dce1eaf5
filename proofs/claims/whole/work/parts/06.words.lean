/-! words of the tables, and worlds -/
theorem t_1 : (Cond.selects "CanoeSides$Reader" (⟨"CanoeSides$Reader", "skipBlanks", "()V"⟩ : MethodName) (⟨"CanoeSides$Reader", "skipBlanks", "()V"⟩ : MethodName)) ∈ TB := tb_of 1 (by decide +kernel) rfl
theorem t_2 : (Cond.selects "CanoeSides$Reader" (⟨"CanoeSides$Reader", "readClause", "()V"⟩ : MethodName) (⟨"CanoeSides$Reader", "readClause", "()V"⟩ : MethodName)) ∈ TB := tb_of 2 (by decide +kernel) rfl
theorem t_3 : (Cond.selects "CanoeSides$Reader" (⟨"CanoeSides$Reader", "letterHere", "()I"⟩ : MethodName) (⟨"CanoeSides$Reader", "letterHere", "()I"⟩ : MethodName)) ∈ TB := tb_of 3 (by decide +kernel) rfl
theorem t_4 : (Cond.selects "CanoeSides$Reader" (⟨"CanoeSides$Reader", "fail", "(II)V"⟩ : MethodName) (⟨"CanoeSides$Reader", "fail", "(II)V"⟩ : MethodName)) ∈ TB := tb_of 4 (by decide +kernel) rfl
theorem t_5 : (Cond.selects "CanoeSides$Reader" (⟨"CanoeSides$Reader", "readSquares", "()V"⟩ : MethodName) (⟨"CanoeSides$Reader", "readSquares", "()V"⟩ : MethodName)) ∈ TB := tb_of 5 (by decide +kernel) rfl
theorem t_6 : (Cond.selects "CanoeSides$Reader" (⟨"CanoeSides$Reader", "readNumber", "(II)I"⟩ : MethodName) (⟨"CanoeSides$Reader", "readNumber", "(II)I"⟩ : MethodName)) ∈ TB := tb_of 6 (by decide +kernel) rfl
theorem t_7 : (Cond.selects "CanoeSides$Reader" (⟨"CanoeSides$Reader", "readOneOf", "(Ljava/lang/String;)I"⟩ : MethodName) (⟨"CanoeSides$Reader", "readOneOf", "(Ljava/lang/String;)I"⟩ : MethodName)) ∈ TB := tb_of 7 (by decide +kernel) rfl
theorem t_8 : (Cond.selects "CanoeSides$Reader" (⟨"CanoeSides$Reader", "readStrengths", "()V"⟩ : MethodName) (⟨"CanoeSides$Reader", "readStrengths", "()V"⟩ : MethodName)) ∈ TB := tb_of 8 (by decide +kernel) rfl
theorem t_9 : (Cond.selects "CanoeSides$Reader" (⟨"CanoeSides$Reader", "readBoat", "()V"⟩ : MethodName) (⟨"CanoeSides$Reader", "readBoat", "()V"⟩ : MethodName)) ∈ TB := tb_of 9 (by decide +kernel) rfl
theorem t_10 : (Cond.selects "CanoeSides$Reader" (⟨"CanoeSides$Reader", "readSquare", "()I"⟩ : MethodName) (⟨"CanoeSides$Reader", "readSquare", "()I"⟩ : MethodName)) ∈ TB := tb_of 10 (by decide +kernel) rfl
theorem t_11 : (Cond.selects "CanoeSides$Reader" (⟨"CanoeSides$Reader", "readGoal", "()V"⟩ : MethodName) (⟨"CanoeSides$Reader", "readGoal", "()V"⟩ : MethodName)) ∈ TB := tb_of 11 (by decide +kernel) rfl
theorem t_12 : (Cond.selects "CanoeSides$Reader" (⟨"CanoeSides$Reader", "readWind", "()V"⟩ : MethodName) (⟨"CanoeSides$Reader", "readWind", "()V"⟩ : MethodName)) ∈ TB := tb_of 12 (by decide +kernel) rfl
theorem t_13 : (Cond.selects "CanoeSides$Reader" (⟨"CanoeSides$Reader", "readHabits", "()V"⟩ : MethodName) (⟨"CanoeSides$Reader", "readHabits", "()V"⟩ : MethodName)) ∈ TB := tb_of 13 (by decide +kernel) rfl
theorem t_14 : (Cond.selects "CanoeSides$Reader" (⟨"CanoeSides$Reader", "readEnd", "()V"⟩ : MethodName) (⟨"CanoeSides$Reader", "readEnd", "()V"⟩ : MethodName)) ∈ TB := tb_of 14 (by decide +kernel) rfl
theorem t_15 : (Cond.selects "CanoeSides" (⟨"CanoeSides", "toldOfText", "(I)I"⟩ : MethodName) (⟨"CanoeSides", "toldOfText", "(I)I"⟩ : MethodName)) ∈ TB := tb_of 15 (by decide +kernel) rfl
theorem t_16 : (Cond.selects "CanoeSides" (⟨"CanoeSides", "toldOfTrip", "(I)I"⟩ : MethodName) (⟨"CanoeSides", "toldOfTrip", "(I)I"⟩ : MethodName)) ∈ TB := tb_of 16 (by decide +kernel) rfl
theorem t_17 : (Cond.selects "CanoeSides" (⟨"CanoeSides", "toldOfCounts", "(I)I"⟩ : MethodName) (⟨"CanoeSides", "toldOfCounts", "(I)I"⟩ : MethodName)) ∈ TB := tb_of 17 (by decide +kernel) rfl
theorem t_18 : (Cond.selects "CanoeSides" (⟨"CanoeSides", "noSquares", "()Z"⟩ : MethodName) (⟨"CanoeSides", "noSquares", "()Z"⟩ : MethodName)) ∈ TB := tb_of 18 (by decide +kernel) rfl
theorem t_19 : (Cond.selects "CanoeSides" (⟨"CanoeSides", "paddle", "(I)V"⟩ : MethodName) (⟨"CanoeSides", "paddle", "(I)V"⟩ : MethodName)) ∈ TB := tb_of 19 (by decide +kernel) rfl
theorem t_20 : (Cond.selects "CanoeSides" (⟨"CanoeSides", "moment", "()I"⟩ : MethodName) (⟨"CanoeSides", "moment", "()I"⟩ : MethodName)) ∈ TB := tb_of 20 (by decide +kernel) rfl
theorem t_21 : (Cond.selects "CanoeSides$Search" (⟨"CanoeSides$Search", "reach", "(II)Z"⟩ : MethodName) (⟨"CanoeSides$Search", "reach", "(II)Z"⟩ : MethodName)) ∈ TB := tb_of 21 (by decide +kernel) rfl
theorem t_22 : (Cond.selects "CanoeSides$Search" (⟨"CanoeSides$Search", "spreadAll", "(LCanoeSides$River;LCanoeSides$Crew;II)V"⟩ : MethodName) (⟨"CanoeSides$Search", "spreadAll", "(LCanoeSides$River;LCanoeSides$Crew;II)V"⟩ : MethodName)) ∈ TB := tb_of 22 (by decide +kernel) rfl
theorem t_23 : (Cond.selects "CanoeSides$Search" (⟨"CanoeSides$Search", "spread", "(LCanoeSides$River;LCanoeSides$Crew;III)V"⟩ : MethodName) (⟨"CanoeSides$Search", "spread", "(LCanoeSides$River;LCanoeSides$Crew;III)V"⟩ : MethodName)) ∈ TB := tb_of 23 (by decide +kernel) rfl
theorem t_24 : (Cond.selects "CanoeSides$Search" (⟨"CanoeSides$Search", "tellRow", "()V"⟩ : MethodName) (⟨"CanoeSides$Search", "tellRow", "()V"⟩ : MethodName)) ∈ TB := tb_of 24 (by decide +kernel) rfl
theorem t_25 : (Cond.selects "CanoeSides$Calling" (⟨"CanoeSides$Calling", "goOn", "(LCanoeSides$River;LCanoeSides$Crew;III)V"⟩ : MethodName) (⟨"CanoeSides$Calling", "goOn", "(LCanoeSides$River;LCanoeSides$Crew;III)V"⟩ : MethodName)) ∈ TB := tb_of 25 (by decide +kernel) rfl
theorem t_26 : (Cond.selects "CanoeSides$Calling" (⟨"CanoeSides$Calling", "callOnAndOn", "(LCanoeSides$River;LCanoeSides$Crew;)V"⟩ : MethodName) (⟨"CanoeSides$Calling", "callOnAndOn", "(LCanoeSides$River;LCanoeSides$Crew;)V"⟩ : MethodName)) ∈ TB := tb_of 26 (by decide +kernel) rfl
theorem t_27 : (Cond.selects "CanoeSides$Calling" (⟨"CanoeSides$Calling", "gatherSources", "()I"⟩ : MethodName) (⟨"CanoeSides$Calling", "gatherSources", "()I"⟩ : MethodName)) ∈ TB := tb_of 27 (by decide +kernel) rfl
theorem t_28 : (Cond.selects "CanoeSides$Calling" (⟨"CanoeSides$Calling", "strokesTo", "(I)I"⟩ : MethodName) (⟨"CanoeSides$Calling", "strokesTo", "(I)I"⟩ : MethodName)) ∈ TB := tb_of 28 (by decide +kernel) rfl
theorem t_29 : (Cond.selects "CanoeSides" (⟨"CanoeSides", "afterSilently", "(I)I"⟩ : MethodName) (⟨"CanoeSides", "afterSilently", "(I)I"⟩ : MethodName)) ∈ TB := tb_of 29 (by decide +kernel) rfl
theorem t_30 : (Cond.selects "CanoeSides" (⟨"CanoeSides", "loopFrom", "(I)I"⟩ : MethodName) (⟨"CanoeSides", "loopFrom", "(I)I"⟩ : MethodName)) ∈ TB := tb_of 30 (by decide +kernel) rfl
theorem t_31 : (Cond.selects "CanoeSides" (⟨"CanoeSides", "leadFrom", "(II)I"⟩ : MethodName) (⟨"CanoeSides", "leadFrom", "(II)I"⟩ : MethodName)) ∈ TB := tb_of 31 (by decide +kernel) rfl
theorem t_32 : (Cond.selects "CanoeSides" (⟨"CanoeSides", "offStraight", "(IIZ)I"⟩ : MethodName) (⟨"CanoeSides", "offStraight", "(IIZ)I"⟩ : MethodName)) ∈ TB := tb_of 32 (by decide +kernel) rfl
theorem t_33 : (Cond.selects "CanoeSides" (⟨"CanoeSides", "stillRow", "(I)I"⟩ : MethodName) (⟨"CanoeSides", "stillRow", "(I)I"⟩ : MethodName)) ∈ TB := tb_of 33 (by decide +kernel) rfl
theorem t_34 : (Cond.selects "CanoeSides$Gusts" (⟨"CanoeSides$Gusts", "widen", "(LCanoeSides$River;LCanoeSides$Crew;I)Z"⟩ : MethodName) (⟨"CanoeSides$Gusts", "widen", "(LCanoeSides$River;LCanoeSides$Crew;I)Z"⟩ : MethodName)) ∈ TB := tb_of 34 (by decide +kernel) rfl
theorem t_35 : (Cond.selects "CanoeSides$Gusts" (⟨"CanoeSides$Gusts", "surePair", "(LCanoeSides$Crew;II)I"⟩ : MethodName) (⟨"CanoeSides$Gusts", "surePair", "(LCanoeSides$Crew;II)I"⟩ : MethodName)) ∈ TB := tb_of 35 (by decide +kernel) rfl
theorem t_36 : (Cond.selects "CanoeSides$Gusts" (⟨"CanoeSides$Gusts", "worstOf", "(I)I"⟩ : MethodName) (⟨"CanoeSides$Gusts", "worstOf", "(I)I"⟩ : MethodName)) ∈ TB := tb_of 36 (by decide +kernel) rfl
theorem t_37 : (Cond.selects "CanoeSides" (⟨"CanoeSides", "strokesByRules", "(I)I"⟩ : MethodName) (⟨"CanoeSides", "strokesByRules", "(I)I"⟩ : MethodName)) ∈ TB := tb_of 37 (by decide +kernel) rfl
theorem t_38 : (Cond.selects "CanoeSides$Lines" (⟨"CanoeSides$Lines", "momentBehind", "(IILCanoeSides$Crew;I)I"⟩ : MethodName) (⟨"CanoeSides$Lines", "momentBehind", "(IILCanoeSides$Crew;I)I"⟩ : MethodName)) ∈ TB := tb_of 38 (by decide +kernel) rfl
theorem t_39 : (Cond.selects "CanoeSides$Lines" (⟨"CanoeSides$Lines", "waysBehind", "(II)I"⟩ : MethodName) (⟨"CanoeSides$Lines", "waysBehind", "(II)I"⟩ : MethodName)) ∈ TB := tb_of 39 (by decide +kernel) rfl
theorem t_40 : (Cond.selects "CanoeSides$Lines" (⟨"CanoeSides$Lines", "firstPair", "(ILCanoeSides$Crew;I)I"⟩ : MethodName) (⟨"CanoeSides$Lines", "firstPair", "(ILCanoeSides$Crew;I)I"⟩ : MethodName)) ∈ TB := tb_of 40 (by decide +kernel) rfl
theorem t_41 : (Cond.selects "CanoeSidesModel" (⟨"CanoeSidesModel", "tellNothing", "(I)V"⟩ : MethodName) (⟨"CanoeSidesModel", "tellNothing", "(I)V"⟩ : MethodName)) ∈ TB := tb_of 41 (by decide +kernel) rfl
theorem t_42 : (Cond.selects "CanoeSidesModel" (⟨"CanoeSidesModel", "here", "()I"⟩ : MethodName) (⟨"CanoeSidesModel", "here", "()I"⟩ : MethodName)) ∈ TB := tb_of 42 (by decide +kernel) rfl
theorem t_43 : (Cond.selects "CanoeSidesModel" (⟨"CanoeSidesModel", "takeClause", "()V"⟩ : MethodName) (⟨"CanoeSidesModel", "takeClause", "()V"⟩ : MethodName)) ∈ TB := tb_of 43 (by decide +kernel) rfl
theorem t_44 : (Cond.selects "CanoeSidesModel" (⟨"CanoeSidesModel", "want", "(ZII)Z"⟩ : MethodName) (⟨"CanoeSidesModel", "want", "(ZII)Z"⟩ : MethodName)) ∈ TB := tb_of 44 (by decide +kernel) rfl
theorem t_45 : (Cond.selects "CanoeSidesModel" (⟨"CanoeSidesModel", "takeRiver", "()V"⟩ : MethodName) (⟨"CanoeSidesModel", "takeRiver", "()V"⟩ : MethodName)) ∈ TB := tb_of 45 (by decide +kernel) rfl
theorem t_46 : (Cond.selects "CanoeSidesModel" (⟨"CanoeSidesModel", "takeNumber", "(II)I"⟩ : MethodName) (⟨"CanoeSidesModel", "takeNumber", "(II)I"⟩ : MethodName)) ∈ TB := tb_of 46 (by decide +kernel) rfl
theorem t_47 : (Cond.selects "CanoeSidesModel" (⟨"CanoeSidesModel", "takeSquare", "()I"⟩ : MethodName) (⟨"CanoeSidesModel", "takeSquare", "()I"⟩ : MethodName)) ∈ TB := tb_of 47 (by decide +kernel) rfl
theorem t_48 : (Cond.selects "CanoeSidesModel" (⟨"CanoeSidesModel", "takeHabits", "()V"⟩ : MethodName) (⟨"CanoeSidesModel", "takeHabits", "()V"⟩ : MethodName)) ∈ TB := tb_of 48 (by decide +kernel) rfl
theorem t_49 : (Cond.selects "CanoeSidesModel" (⟨"CanoeSidesModel", "squares", "(I)I"⟩ : MethodName) (⟨"CanoeSidesModel", "squares", "(I)I"⟩ : MethodName)) ∈ TB := tb_of 49 (by decide +kernel) rfl
theorem t_50 : (Cond.selects "CanoeSidesModel" (⟨"CanoeSidesModel", "pair", "(I)I"⟩ : MethodName) (⟨"CanoeSidesModel", "pair", "(I)I"⟩ : MethodName)) ∈ TB := tb_of 50 (by decide +kernel) rfl
theorem t_51 : (Cond.selects "CanoeSidesModel" (⟨"CanoeSidesModel", "isNone", "()Z"⟩ : MethodName) (⟨"CanoeSidesModel", "isNone", "()Z"⟩ : MethodName)) ∈ TB := tb_of 51 (by decide +kernel) rfl
theorem t_52 : (Cond.selects "CanoeSidesModel" (⟨"CanoeSidesModel", "isGoal", "(II)Z"⟩ : MethodName) (⟨"CanoeSidesModel", "isGoal", "(II)Z"⟩ : MethodName)) ∈ TB := tb_of 52 (by decide +kernel) rfl
theorem t_53 : (Cond.selects "CanoeSidesModel" (⟨"CanoeSidesModel", "isSquare", "(II)Z"⟩ : MethodName) (⟨"CanoeSidesModel", "isSquare", "(II)Z"⟩ : MethodName)) ∈ TB := tb_of 53 (by decide +kernel) rfl
theorem t_54 : (Cond.selects "CanoeSidesModel" (⟨"CanoeSidesModel", "go", "(II)V"⟩ : MethodName) (⟨"CanoeSidesModel", "go", "(II)V"⟩ : MethodName)) ∈ TB := tb_of 54 (by decide +kernel) rfl
theorem t_55 : (Cond.selects "CanoeSidesModel" (⟨"CanoeSidesModel", "remember", "()V"⟩ : MethodName) (⟨"CanoeSidesModel", "remember", "()V"⟩ : MethodName)) ∈ TB := tb_of 55 (by decide +kernel) rfl
theorem t_56 : (Cond.selects "CanoeSidesModel" (⟨"CanoeSidesModel", "strokeFrom", "(IIII)V"⟩ : MethodName) (⟨"CanoeSidesModel", "strokeFrom", "(IIII)V"⟩ : MethodName)) ∈ TB := tb_of 56 (by decide +kernel) rfl
theorem t_57 : (Cond.selects "CanoeSidesModel" (⟨"CanoeSidesModel", "turnBy", "(II)I"⟩ : MethodName) (⟨"CanoeSidesModel", "turnBy", "(II)I"⟩ : MethodName)) ∈ TB := tb_of 57 (by decide +kernel) rfl
theorem t_58 : (Cond.selects "CanoeSidesModel" (⟨"CanoeSidesModel", "pushBy", "(II)I"⟩ : MethodName) (⟨"CanoeSidesModel", "pushBy", "(II)I"⟩ : MethodName)) ∈ TB := tb_of 58 (by decide +kernel) rfl
theorem t_59 : (Cond.selects "CanoeSidesModel" (⟨"CanoeSidesModel", "beside", "(III)I"⟩ : MethodName) (⟨"CanoeSidesModel", "beside", "(III)I"⟩ : MethodName)) ∈ TB := tb_of 59 (by decide +kernel) rfl
theorem t_60 : (Cond.selects "CanoeSidesModel" (⟨"CanoeSidesModel", "driven", "(II)I"⟩ : MethodName) (⟨"CanoeSidesModel", "driven", "(II)I"⟩ : MethodName)) ∈ TB := tb_of 60 (by decide +kernel) rfl
theorem t_61 : (Cond.selects "CanoeSidesModel" (⟨"CanoeSidesModel", "windAt", "(I)V"⟩ : MethodName) (⟨"CanoeSidesModel", "windAt", "(I)V"⟩ : MethodName)) ∈ TB := tb_of 61 (by decide +kernel) rfl
theorem t_62 : (Cond.selects "CanoeSidesModel" (⟨"CanoeSidesModel", "draw", "(I)I"⟩ : MethodName) (⟨"CanoeSidesModel", "draw", "(I)I"⟩ : MethodName)) ∈ TB := tb_of 62 (by decide +kernel) rfl
theorem t_63 : (Cond.selects "CanoeSidesModel" (⟨"CanoeSidesModel", "findFarBy", "(II)V"⟩ : MethodName) (⟨"CanoeSidesModel", "findFarBy", "(II)V"⟩ : MethodName)) ∈ TB := tb_of 63 (by decide +kernel) rfl
theorem t_64 : (Cond.selects "CanoeSidesModel" (⟨"CanoeSidesModel", "findFar", "()V"⟩ : MethodName) (⟨"CanoeSidesModel", "findFar", "()V"⟩ : MethodName)) ∈ TB := tb_of 64 (by decide +kernel) rfl
theorem t_65 : (Cond.selects "CanoeSidesModel" (⟨"CanoeSidesModel", "states", "()I"⟩ : MethodName) (⟨"CanoeSidesModel", "states", "()I"⟩ : MethodName)) ∈ TB := tb_of 65 (by decide +kernel) rfl
theorem t_66 : (Cond.selects "CanoeSidesModel" (⟨"CanoeSidesModel", "times", "()I"⟩ : MethodName) (⟨"CanoeSidesModel", "times", "()I"⟩ : MethodName)) ∈ TB := tb_of 66 (by decide +kernel) rfl
theorem t_67 : (Cond.selects "CanoeSidesModel" (⟨"CanoeSidesModel", "isGoalState", "(I)Z"⟩ : MethodName) (⟨"CanoeSidesModel", "isGoalState", "(I)Z"⟩ : MethodName)) ∈ TB := tb_of 67 (by decide +kernel) rfl
theorem t_68 : (Cond.selects "CanoeSidesModel" (⟨"CanoeSidesModel", "leastAfter", "(I)I"⟩ : MethodName) (⟨"CanoeSidesModel", "leastAfter", "(I)I"⟩ : MethodName)) ∈ TB := tb_of 68 (by decide +kernel) rfl
theorem t_69 : (Cond.selects "CanoeSidesModel" (⟨"CanoeSidesModel", "after", "(III)I"⟩ : MethodName) (⟨"CanoeSidesModel", "after", "(III)I"⟩ : MethodName)) ∈ TB := tb_of 69 (by decide +kernel) rfl
theorem t_70 : (Cond.selects "CanoeSidesModel" (⟨"CanoeSidesModel", "stateOf", "(III)I"⟩ : MethodName) (⟨"CanoeSidesModel", "stateOf", "(III)I"⟩ : MethodName)) ∈ TB := tb_of 70 (by decide +kernel) rfl
theorem t_71 : (Cond.selects "CanoeSidesModel" (⟨"CanoeSidesModel", "stateNow", "()I"⟩ : MethodName) (⟨"CanoeSidesModel", "stateNow", "()I"⟩ : MethodName)) ∈ TB := tb_of 71 (by decide +kernel) rfl
theorem t_72 : (Cond.selects "CanoeSidesModel" (⟨"CanoeSidesModel", "leastCalled", "()I"⟩ : MethodName) (⟨"CanoeSidesModel", "leastCalled", "()I"⟩ : MethodName)) ∈ TB := tb_of 72 (by decide +kernel) rfl
theorem t_73 : (Cond.selects "CanoeSidesModel" (⟨"CanoeSidesModel", "callOn", "()V"⟩ : MethodName) (⟨"CanoeSidesModel", "callOn", "()V"⟩ : MethodName)) ∈ TB := tb_of 73 (by decide +kernel) rfl
theorem t_74 : (Cond.selects "CanoeSidesModel" (⟨"CanoeSidesModel", "afterMute", "(I)I"⟩ : MethodName) (⟨"CanoeSidesModel", "afterMute", "(I)I"⟩ : MethodName)) ∈ TB := tb_of 74 (by decide +kernel) rfl
theorem t_75 : (Cond.selects "CanoeSidesModel" (⟨"CanoeSidesModel", "openWater", "(II)V"⟩ : MethodName) (⟨"CanoeSidesModel", "openWater", "(II)V"⟩ : MethodName)) ∈ TB := tb_of 75 (by decide +kernel) rfl
theorem t_76 : (Cond.selects "CanoeSidesModel" (⟨"CanoeSidesModel", "stateBy", "(II)I"⟩ : MethodName) (⟨"CanoeSidesModel", "stateBy", "(II)I"⟩ : MethodName)) ∈ TB := tb_of 76 (by decide +kernel) rfl
theorem t_77 : (Cond.selects "CanoeSidesModel" (⟨"CanoeSidesModel", "findSure", "()V"⟩ : MethodName) (⟨"CanoeSidesModel", "findSure", "()V"⟩ : MethodName)) ∈ TB := tb_of 77 (by decide +kernel) rfl
theorem t_78 : (Cond.selects "CanoeSidesModel" (⟨"CanoeSidesModel", "leastWorst", "(I)I"⟩ : MethodName) (⟨"CanoeSidesModel", "leastWorst", "(I)I"⟩ : MethodName)) ∈ TB := tb_of 78 (by decide +kernel) rfl
theorem t_79 : (Cond.selects "CanoeSidesModel" (⟨"CanoeSidesModel", "worst", "(III)I"⟩ : MethodName) (⟨"CanoeSidesModel", "worst", "(III)I"⟩ : MethodName)) ∈ TB := tb_of 79 (by decide +kernel) rfl
theorem t_80 : (Cond.selects "CanoeSidesModel" (⟨"CanoeSidesModel", "strokesBy", "(II)I"⟩ : MethodName) (⟨"CanoeSidesModel", "strokesBy", "(II)I"⟩ : MethodName)) ∈ TB := tb_of 80 (by decide +kernel) rfl
theorem t_81 : (Cond.selects "CanoeSidesModel" (⟨"CanoeSidesModel", "findFits", "()V"⟩ : MethodName) (⟨"CanoeSidesModel", "findFits", "()V"⟩ : MethodName)) ∈ TB := tb_of 81 (by decide +kernel) rfl
theorem t_82 : (Cond.selects "CanoeSidesModel" (⟨"CanoeSidesModel", "fitsRow", "(I)Z"⟩ : MethodName) (⟨"CanoeSidesModel", "fitsRow", "(I)Z"⟩ : MethodName)) ∈ TB := tb_of 82 (by decide +kernel) rfl
theorem t_83 : (Cond.selects "CanoeSidesModel" (⟨"CanoeSidesModel", "copy", "(II)V"⟩ : MethodName) (⟨"CanoeSidesModel", "copy", "(II)V"⟩ : MethodName)) ∈ TB := tb_of 83 (by decide +kernel) rfl
theorem t_85 : (Jvm.Cond.initialized "CanoeSides") ∈ TB := tb_of 85 (by decide +kernel) rfl
theorem t_86 : (Jvm.Cond.initialized "CanoeSides$River") ∈ TB := tb_of 86 (by decide +kernel) rfl
theorem t_88 : (Jvm.Cond.initialized "CanoeSides$Waters") ∈ TB := tb_of 88 (by decide +kernel) rfl
theorem t_89 : (Jvm.Cond.initialized "CanoeSides$Crew") ∈ TB := tb_of 89 (by decide +kernel) rfl
theorem t_90 : (Jvm.Cond.initialized "CanoeSides$Boat") ∈ TB := tb_of 90 (by decide +kernel) rfl
theorem t_91 : (Jvm.Cond.initialized "CanoeSides$Log") ∈ TB := tb_of 91 (by decide +kernel) rfl
theorem t_92 : (Jvm.Cond.initialized "CanoeSides$Lines") ∈ TB := tb_of 92 (by decide +kernel) rfl
theorem t_93 : (Jvm.Cond.initialized "CanoeSides$Search") ∈ TB := tb_of 93 (by decide +kernel) rfl
theorem t_94 : (Jvm.Cond.initialized "CanoeSides$Calling") ∈ TB := tb_of 94 (by decide +kernel) rfl
theorem t_95 : (Jvm.Cond.initialized "CanoeSides$Gusts") ∈ TB := tb_of 95 (by decide +kernel) rfl
theorem t_96 : (Jvm.Cond.initialized "java/lang/Math") ∈ TB := tb_of 96 (by decide +kernel) rfl
theorem t_97 : (Jvm.Cond.initialized "CanoeSidesModel") ∈ TB := tb_of 97 (by decide +kernel) rfl
theorem t_98 : (Jvm.Cond.initialized "CanoeSides$Reader") ∈ TB := tb_of 98 (by decide +kernel) rfl
theorem t_99 : (Jvm.Cond.initialized "java/lang/String") ∈ TB := tb_of 99 (by decide +kernel) rfl
theorem t_100 : (Jvm.Cond.initialized "java/lang/StringLatin1") ∈ TB := tb_of 100 (by decide +kernel) rfl
theorem t_121 : (Jvm.Cond.fieldLink "CanoeSides$River" (9 : Nat) "CanoeSides$River" "wide" "I") ∈ TB := tb_of 121 (by decide +kernel) rfl
theorem t_122 : (Jvm.Cond.fieldLinkNest "CanoeSides" (115 : Nat) "CanoeSides$River" "wide" "I" "CanoeSides") ∈ NB := nb_of 122 (by decide +kernel) rfl
theorem t_123 : (Jvm.Cond.fieldLinkNest "CanoeSides$Reader" (105 : Nat) "CanoeSides$River" "wide" "I" "CanoeSides") ∈ NB := nb_of 123 (by decide +kernel) rfl
theorem t_124 : (Jvm.Cond.fieldLink "CanoeSides$River" (15 : Nat) "CanoeSides$River" "high" "I") ∈ TB := tb_of 124 (by decide +kernel) rfl
theorem t_125 : (Jvm.Cond.fieldLinkNest "CanoeSides" (118 : Nat) "CanoeSides$River" "high" "I" "CanoeSides") ∈ NB := nb_of 125 (by decide +kernel) rfl
theorem t_126 : (Jvm.Cond.fieldLinkNest "CanoeSides$Reader" (108 : Nat) "CanoeSides$River" "high" "I" "CanoeSides") ∈ NB := nb_of 126 (by decide +kernel) rfl
theorem t_127 : (Jvm.Cond.fieldLink "CanoeSides$River" (18 : Nat) "CanoeSides$River" "kinds" "[I") ∈ TB := tb_of 127 (by decide +kernel) rfl
theorem t_129 : (Jvm.Cond.fieldLinkNest "CanoeSides$Crew" (22 : Nat) "CanoeSides$River" "strengthInFront" "I" "CanoeSides") ∈ NB := nb_of 129 (by decide +kernel) rfl
theorem t_130 : (Jvm.Cond.fieldLinkNest "CanoeSides$Reader" (114 : Nat) "CanoeSides$River" "strengthInFront" "I" "CanoeSides") ∈ NB := nb_of 130 (by decide +kernel) rfl
theorem t_131 : (Jvm.Cond.fieldLinkNest "CanoeSides" (307 : Nat) "CanoeSides$River" "strengthInFront" "I" "CanoeSides") ∈ NB := nb_of 131 (by decide +kernel) rfl
theorem t_133 : (Jvm.Cond.fieldLinkNest "CanoeSides$Crew" (28 : Nat) "CanoeSides$River" "strengthBehind" "I" "CanoeSides") ∈ NB := nb_of 133 (by decide +kernel) rfl
theorem t_134 : (Jvm.Cond.fieldLinkNest "CanoeSides$Reader" (117 : Nat) "CanoeSides$River" "strengthBehind" "I" "CanoeSides") ∈ NB := nb_of 134 (by decide +kernel) rfl
theorem t_135 : (Jvm.Cond.fieldLinkNest "CanoeSides" (310 : Nat) "CanoeSides$River" "strengthBehind" "I" "CanoeSides") ∈ NB := nb_of 135 (by decide +kernel) rfl
theorem t_137 : (Jvm.Cond.fieldLinkNest "CanoeSides$Crew" (35 : Nat) "CanoeSides$River" "turnPart" "I" "CanoeSides") ∈ NB := nb_of 137 (by decide +kernel) rfl
theorem t_138 : (Jvm.Cond.fieldLinkNest "CanoeSides$Reader" (120 : Nat) "CanoeSides$River" "turnPart" "I" "CanoeSides") ∈ NB := nb_of 138 (by decide +kernel) rfl
theorem t_139 : (Jvm.Cond.fieldLinkNest "CanoeSides" (313 : Nat) "CanoeSides$River" "turnPart" "I" "CanoeSides") ∈ NB := nb_of 139 (by decide +kernel) rfl
theorem t_141 : (Jvm.Cond.fieldLinkNest "CanoeSides$Crew" (47 : Nat) "CanoeSides$River" "pushPart" "I" "CanoeSides") ∈ NB := nb_of 141 (by decide +kernel) rfl
theorem t_142 : (Jvm.Cond.fieldLinkNest "CanoeSides$Reader" (123 : Nat) "CanoeSides$River" "pushPart" "I" "CanoeSides") ∈ NB := nb_of 142 (by decide +kernel) rfl
theorem t_143 : (Jvm.Cond.fieldLinkNest "CanoeSides" (316 : Nat) "CanoeSides$River" "pushPart" "I" "CanoeSides") ∈ NB := nb_of 143 (by decide +kernel) rfl
theorem t_145 : (Jvm.Cond.fieldLinkNest "CanoeSides$Reader" (111 : Nat) "CanoeSides$River" "startSpot" "I" "CanoeSides") ∈ NB := nb_of 145 (by decide +kernel) rfl
theorem t_147 : (Jvm.Cond.fieldLink "CanoeSides$River" (37 : Nat) "CanoeSides$River" "goalSquare" "I") ∈ TB := tb_of 147 (by decide +kernel) rfl
theorem t_148 : (Jvm.Cond.fieldLinkNest "CanoeSides$Search" (34 : Nat) "CanoeSides$River" "goalSquare" "I" "CanoeSides") ∈ NB := nb_of 148 (by decide +kernel) rfl
theorem t_149 : (Jvm.Cond.fieldLinkNest "CanoeSides$Gusts" (30 : Nat) "CanoeSides$River" "goalSquare" "I" "CanoeSides") ∈ NB := nb_of 149 (by decide +kernel) rfl
theorem t_150 : (Jvm.Cond.fieldLinkNest "CanoeSides$Calling" (40 : Nat) "CanoeSides$River" "goalSquare" "I" "CanoeSides") ∈ NB := nb_of 150 (by decide +kernel) rfl
theorem t_151 : (Jvm.Cond.fieldLinkNest "CanoeSides$Reader" (129 : Nat) "CanoeSides$River" "goalSquare" "I" "CanoeSides") ∈ NB := nb_of 151 (by decide +kernel) rfl
theorem t_152 : (Jvm.Cond.fieldLinkNest "CanoeSides" (319 : Nat) "CanoeSides$River" "goalSquare" "I" "CanoeSides") ∈ NB := nb_of 152 (by decide +kernel) rfl
theorem t_153 : (Jvm.Cond.fieldLink "CanoeSides$River" (40 : Nat) "CanoeSides$River" "goalHeading" "I") ∈ TB := tb_of 153 (by decide +kernel) rfl
theorem t_154 : (Jvm.Cond.fieldLinkNest "CanoeSides$Reader" (132 : Nat) "CanoeSides$River" "goalHeading" "I" "CanoeSides") ∈ NB := nb_of 154 (by decide +kernel) rfl
theorem t_155 : (Jvm.Cond.fieldLinkNest "CanoeSides" (322 : Nat) "CanoeSides$River" "goalHeading" "I" "CanoeSides") ∈ NB := nb_of 155 (by decide +kernel) rfl
theorem t_156 : (Jvm.Cond.fieldLink "CanoeSides$River" (43 : Nat) "CanoeSides$River" "windWay" "I") ∈ TB := tb_of 156 (by decide +kernel) rfl
theorem t_157 : (Jvm.Cond.fieldLinkNest "CanoeSides$Gusts" (25 : Nat) "CanoeSides$River" "windWay" "I" "CanoeSides") ∈ NB := nb_of 157 (by decide +kernel) rfl
theorem t_158 : (Jvm.Cond.fieldLinkNest "CanoeSides$Reader" (135 : Nat) "CanoeSides$River" "windWay" "I" "CanoeSides") ∈ NB := nb_of 158 (by decide +kernel) rfl
theorem t_159 : (Jvm.Cond.fieldLinkNest "CanoeSides" (325 : Nat) "CanoeSides$River" "windWay" "I" "CanoeSides") ∈ NB := nb_of 159 (by decide +kernel) rfl
theorem t_161 : (Jvm.Cond.fieldLinkNest "CanoeSides$Waters" (22 : Nat) "CanoeSides$River" "windEvery" "I" "CanoeSides") ∈ NB := nb_of 161 (by decide +kernel) rfl
theorem t_162 : (Jvm.Cond.fieldLinkNest "CanoeSides$Reader" (138 : Nat) "CanoeSides$River" "windEvery" "I" "CanoeSides") ∈ NB := nb_of 162 (by decide +kernel) rfl
theorem t_163 : (Jvm.Cond.fieldLinkNest "CanoeSides" (328 : Nat) "CanoeSides$River" "windEvery" "I" "CanoeSides") ∈ NB := nb_of 163 (by decide +kernel) rfl
theorem t_164 : (Jvm.Cond.fieldLink "CanoeSides$River" (49 : Nat) "CanoeSides$River" "habits" "[I") ∈ TB := tb_of 164 (by decide +kernel) rfl
theorem t_165 : (Jvm.Cond.fieldLinkNest "CanoeSides$Reader" (141 : Nat) "CanoeSides$River" "habits" "[I" "CanoeSides") ∈ NB := nb_of 165 (by decide +kernel) rfl
theorem t_166 : (Jvm.Cond.lays "CanoeSides$River" "CanoeSides$River" "wide" "I") ∈ TB := tb_of 166 (by decide +kernel) rfl
theorem t_168 : (Jvm.Cond.lays "CanoeSides$River" "CanoeSides$River" "high" "I") ∈ TB := tb_of 168 (by decide +kernel) rfl
theorem t_170 : (Jvm.Cond.laysFinal "CanoeSides$River" "CanoeSides$River" "kinds" "[I") ∈ TB := tb_of 170 (by decide +kernel) rfl
theorem t_172 : (Jvm.Cond.lays "CanoeSides$River" "CanoeSides$River" "strengthInFront" "I") ∈ TB := tb_of 172 (by decide +kernel) rfl
theorem t_174 : (Jvm.Cond.lays "CanoeSides$River" "CanoeSides$River" "strengthBehind" "I") ∈ TB := tb_of 174 (by decide +kernel) rfl
theorem t_176 : (Jvm.Cond.lays "CanoeSides$River" "CanoeSides$River" "turnPart" "I") ∈ TB := tb_of 176 (by decide +kernel) rfl
theorem t_178 : (Jvm.Cond.lays "CanoeSides$River" "CanoeSides$River" "pushPart" "I") ∈ TB := tb_of 178 (by decide +kernel) rfl
theorem t_180 : (Jvm.Cond.lays "CanoeSides$River" "CanoeSides$River" "startSpot" "I") ∈ TB := tb_of 180 (by decide +kernel) rfl
theorem t_182 : (Jvm.Cond.lays "CanoeSides$River" "CanoeSides$River" "goalSquare" "I") ∈ TB := tb_of 182 (by decide +kernel) rfl
theorem t_184 : (Jvm.Cond.lays "CanoeSides$River" "CanoeSides$River" "goalHeading" "I") ∈ TB := tb_of 184 (by decide +kernel) rfl
theorem t_186 : (Jvm.Cond.lays "CanoeSides$River" "CanoeSides$River" "windWay" "I") ∈ TB := tb_of 186 (by decide +kernel) rfl
theorem t_188 : (Jvm.Cond.lays "CanoeSides$River" "CanoeSides$River" "windEvery" "I") ∈ TB := tb_of 188 (by decide +kernel) rfl
theorem t_190 : (Jvm.Cond.laysFinal "CanoeSides$River" "CanoeSides$River" "habits" "[I") ∈ TB := tb_of 190 (by decide +kernel) rfl
theorem t_200 : (Jvm.Cond.fieldLink "CanoeSides$Waters" (11 : Nat) "CanoeSides$Waters" "leads" "[I") ∈ TB := tb_of 200 (by decide +kernel) rfl
theorem t_201 : (Jvm.Cond.fieldLink "CanoeSides$Waters" (15 : Nat) "CanoeSides$Waters" "blown" "[I") ∈ TB := tb_of 201 (by decide +kernel) rfl
theorem t_202 : (Jvm.Cond.fieldLink "CanoeSides$Waters" (18 : Nat) "CanoeSides$Waters" "times" "I") ∈ TB := tb_of 202 (by decide +kernel) rfl
theorem t_203 : (Jvm.Cond.laysFinal "CanoeSides$Waters" "CanoeSides$Waters" "leads" "[I") ∈ TB := tb_of 203 (by decide +kernel) rfl
theorem t_205 : (Jvm.Cond.laysFinal "CanoeSides$Waters" "CanoeSides$Waters" "blown" "[I") ∈ TB := tb_of 205 (by decide +kernel) rfl
theorem t_207 : (Jvm.Cond.lays "CanoeSides$Waters" "CanoeSides$Waters" "times" "I") ∈ TB := tb_of 207 (by decide +kernel) rfl
theorem t_216 : (Jvm.Cond.fieldLink "CanoeSides$Crew" (18 : Nat) "CanoeSides$Crew" "waters" "LCanoeSides$Waters;") ∈ TB := tb_of 216 (by decide +kernel) rfl
theorem t_217 : (Jvm.Cond.fieldLinkNest "CanoeSides$Gusts" (58 : Nat) "CanoeSides$Crew" "waters" "LCanoeSides$Waters;" "CanoeSides") ∈ NB := nb_of 217 (by decide +kernel) rfl
theorem t_218 : (Jvm.Cond.fieldLinkNest "CanoeSides$Lines" (56 : Nat) "CanoeSides$Crew" "waters" "LCanoeSides$Waters;" "CanoeSides") ∈ NB := nb_of 218 (by decide +kernel) rfl
theorem t_219 : (Jvm.Cond.fieldLink "CanoeSides$Crew" (9 : Nat) "CanoeSides$Crew" "turns" "[I") ∈ TB := tb_of 219 (by decide +kernel) rfl
theorem t_220 : (Jvm.Cond.fieldLink "CanoeSides$Crew" (15 : Nat) "CanoeSides$Crew" "pushes" "[I") ∈ TB := tb_of 220 (by decide +kernel) rfl
theorem t_221 : (Jvm.Cond.laysFinal "CanoeSides$Crew" "CanoeSides$Crew" "waters" "LCanoeSides$Waters;") ∈ TB := tb_of 221 (by decide +kernel) rfl
theorem t_223 : (Jvm.Cond.laysFinal "CanoeSides$Crew" "CanoeSides$Crew" "turns" "[I") ∈ TB := tb_of 223 (by decide +kernel) rfl
theorem t_225 : (Jvm.Cond.laysFinal "CanoeSides$Crew" "CanoeSides$Crew" "pushes" "[I") ∈ TB := tb_of 225 (by decide +kernel) rfl
theorem t_234 : (Jvm.Cond.fieldLink "CanoeSides$Boat" (9 : Nat) "CanoeSides$Boat" "spot" "I") ∈ TB := tb_of 234 (by decide +kernel) rfl
theorem t_235 : (Jvm.Cond.fieldLinkNest "CanoeSides" (152 : Nat) "CanoeSides$Boat" "spot" "I" "CanoeSides") ∈ NB := nb_of 235 (by decide +kernel) rfl
theorem t_236 : (Jvm.Cond.fieldLink "CanoeSides$Boat" (15 : Nat) "CanoeSides$Boat" "strokes" "I") ∈ TB := tb_of 236 (by decide +kernel) rfl
theorem t_237 : (Jvm.Cond.fieldLinkNest "CanoeSides" (183 : Nat) "CanoeSides$Boat" "strokes" "I" "CanoeSides") ∈ NB := nb_of 237 (by decide +kernel) rfl
theorem t_238 : (Jvm.Cond.fieldLink "CanoeSides$Boat" (18 : Nat) "CanoeSides$Boat" "seedNow" "I") ∈ TB := tb_of 238 (by decide +kernel) rfl
theorem t_239 : (Jvm.Cond.fieldLinkNest "CanoeSides" (276 : Nat) "CanoeSides$Boat" "seedNow" "I" "CanoeSides") ∈ NB := nb_of 239 (by decide +kernel) rfl
theorem t_240 : (Jvm.Cond.lays "CanoeSides$Boat" "CanoeSides$Boat" "spot" "I") ∈ TB := tb_of 240 (by decide +kernel) rfl
theorem t_242 : (Jvm.Cond.lays "CanoeSides$Boat" "CanoeSides$Boat" "strokes" "I") ∈ TB := tb_of 242 (by decide +kernel) rfl
theorem t_244 : (Jvm.Cond.lays "CanoeSides$Boat" "CanoeSides$Boat" "seedNow" "I") ∈ TB := tb_of 244 (by decide +kernel) rfl
theorem t_254 : (Jvm.Cond.fieldLink "CanoeSides$Log" (9 : Nat) "CanoeSides$Log" "spots" "[I") ∈ TB := tb_of 254 (by decide +kernel) rfl
theorem t_255 : (Jvm.Cond.fieldLink "CanoeSides$Log" (15 : Nat) "CanoeSides$Log" "next" "I") ∈ TB := tb_of 255 (by decide +kernel) rfl
theorem t_256 : (Jvm.Cond.fieldLink "CanoeSides$Log" (19 : Nat) "CanoeSides$Log" "kept" "I") ∈ TB := tb_of 256 (by decide +kernel) rfl
theorem t_257 : (Jvm.Cond.fieldLinkNest "CanoeSides" (177 : Nat) "CanoeSides$Log" "kept" "I" "CanoeSides") ∈ NB := nb_of 257 (by decide +kernel) rfl
theorem t_258 : (Jvm.Cond.laysFinal "CanoeSides$Log" "CanoeSides$Log" "spots" "[I") ∈ TB := tb_of 258 (by decide +kernel) rfl
theorem t_260 : (Jvm.Cond.lays "CanoeSides$Log" "CanoeSides$Log" "next" "I") ∈ TB := tb_of 260 (by decide +kernel) rfl
theorem t_262 : (Jvm.Cond.lays "CanoeSides$Log" "CanoeSides$Log" "kept" "I") ∈ TB := tb_of 262 (by decide +kernel) rfl
theorem t_271 : (Jvm.Cond.fieldLink "CanoeSides$Lines" (9 : Nat) "CanoeSides$Lines" "squares" "[I") ∈ TB := tb_of 271 (by decide +kernel) rfl
theorem t_272 : (Jvm.Cond.fieldLink "CanoeSides$Lines" (15 : Nat) "CanoeSides$Lines" "ways" "[I") ∈ TB := tb_of 272 (by decide +kernel) rfl
theorem t_273 : (Jvm.Cond.fieldLink "CanoeSides$Lines" (18 : Nat) "CanoeSides$Lines" "pairs" "[I") ∈ TB := tb_of 273 (by decide +kernel) rfl
theorem t_274 : (Jvm.Cond.fieldLink "CanoeSides$Lines" (21 : Nat) "CanoeSides$Lines" "places" "[I") ∈ TB := tb_of 274 (by decide +kernel) rfl
theorem t_275 : (Jvm.Cond.fieldLink "CanoeSides$Lines" (24 : Nat) "CanoeSides$Lines" "marks" "I") ∈ TB := tb_of 275 (by decide +kernel) rfl
theorem t_276 : (Jvm.Cond.fieldLinkNest "CanoeSides" (245 : Nat) "CanoeSides$Lines" "marks" "I" "CanoeSides") ∈ NB := nb_of 276 (by decide +kernel) rfl
theorem t_277 : (Jvm.Cond.fieldLink "CanoeSides$Lines" (28 : Nat) "CanoeSides$Lines" "entries" "I") ∈ TB := tb_of 277 (by decide +kernel) rfl
theorem t_278 : (Jvm.Cond.fieldLinkNest "CanoeSides" (265 : Nat) "CanoeSides$Lines" "entries" "I" "CanoeSides") ∈ NB := nb_of 278 (by decide +kernel) rfl
theorem t_279 : (Jvm.Cond.laysFinal "CanoeSides$Lines" "CanoeSides$Lines" "squares" "[I") ∈ TB := tb_of 279 (by decide +kernel) rfl
theorem t_281 : (Jvm.Cond.laysFinal "CanoeSides$Lines" "CanoeSides$Lines" "ways" "[I") ∈ TB := tb_of 281 (by decide +kernel) rfl
theorem t_283 : (Jvm.Cond.laysFinal "CanoeSides$Lines" "CanoeSides$Lines" "pairs" "[I") ∈ TB := tb_of 283 (by decide +kernel) rfl
theorem t_285 : (Jvm.Cond.laysFinal "CanoeSides$Lines" "CanoeSides$Lines" "places" "[I") ∈ TB := tb_of 285 (by decide +kernel) rfl
theorem t_287 : (Jvm.Cond.lays "CanoeSides$Lines" "CanoeSides$Lines" "marks" "I") ∈ TB := tb_of 287 (by decide +kernel) rfl
theorem t_289 : (Jvm.Cond.lays "CanoeSides$Lines" "CanoeSides$Lines" "entries" "I") ∈ TB := tb_of 289 (by decide +kernel) rfl
theorem t_298 : (Jvm.Cond.fieldLink "CanoeSides$Search" (9 : Nat) "CanoeSides$Search" "cameBy" "[I") ∈ TB := tb_of 298 (by decide +kernel) rfl
theorem t_299 : (Jvm.Cond.fieldLink "CanoeSides$Search" (15 : Nat) "CanoeSides$Search" "queue" "[I") ∈ TB := tb_of 299 (by decide +kernel) rfl
theorem t_300 : (Jvm.Cond.fieldLink "CanoeSides$Search" (18 : Nat) "CanoeSides$Search" "row" "[I") ∈ TB := tb_of 300 (by decide +kernel) rfl
theorem t_301 : (Jvm.Cond.fieldLink "CanoeSides$Search" (21 : Nat) "CanoeSides$Search" "queued" "I") ∈ TB := tb_of 301 (by decide +kernel) rfl
theorem t_302 : (Jvm.Cond.fieldLink "CanoeSides$Search" (25 : Nat) "CanoeSides$Search" "found" "I") ∈ TB := tb_of 302 (by decide +kernel) rfl
theorem t_303 : (Jvm.Cond.fieldLink "CanoeSides$Search" (28 : Nat) "CanoeSides$Search" "strokes" "I") ∈ TB := tb_of 303 (by decide +kernel) rfl
theorem t_304 : (Jvm.Cond.fieldLinkNest "CanoeSides" (193 : Nat) "CanoeSides$Search" "strokes" "I" "CanoeSides") ∈ NB := nb_of 304 (by decide +kernel) rfl
theorem t_305 : (Jvm.Cond.fieldLink "CanoeSides$Search" (31 : Nat) "CanoeSides$Search" "lookedFor" "I") ∈ TB := tb_of 305 (by decide +kernel) rfl
theorem t_306 : (Jvm.Cond.laysFinal "CanoeSides$Search" "CanoeSides$Search" "cameBy" "[I") ∈ TB := tb_of 306 (by decide +kernel) rfl
theorem t_308 : (Jvm.Cond.laysFinal "CanoeSides$Search" "CanoeSides$Search" "queue" "[I") ∈ TB := tb_of 308 (by decide +kernel) rfl
theorem t_310 : (Jvm.Cond.laysFinal "CanoeSides$Search" "CanoeSides$Search" "row" "[I") ∈ TB := tb_of 310 (by decide +kernel) rfl
theorem t_312 : (Jvm.Cond.lays "CanoeSides$Search" "CanoeSides$Search" "queued" "I") ∈ TB := tb_of 312 (by decide +kernel) rfl
theorem t_314 : (Jvm.Cond.lays "CanoeSides$Search" "CanoeSides$Search" "found" "I") ∈ TB := tb_of 314 (by decide +kernel) rfl
theorem t_316 : (Jvm.Cond.lays "CanoeSides$Search" "CanoeSides$Search" "strokes" "I") ∈ TB := tb_of 316 (by decide +kernel) rfl
theorem t_318 : (Jvm.Cond.lays "CanoeSides$Search" "CanoeSides$Search" "lookedFor" "I") ∈ TB := tb_of 318 (by decide +kernel) rfl
theorem t_327 : (Jvm.Cond.fieldLink "CanoeSides$Calling" (9 : Nat) "CanoeSides$Calling" "before" "[I") ∈ TB := tb_of 327 (by decide +kernel) rfl
theorem t_328 : (Jvm.Cond.fieldLink "CanoeSides$Calling" (15 : Nat) "CanoeSides$Calling" "least" "[I") ∈ TB := tb_of 328 (by decide +kernel) rfl
theorem t_329 : (Jvm.Cond.fieldLink "CanoeSides$Calling" (18 : Nat) "CanoeSides$Calling" "passed" "[I") ∈ TB := tb_of 329 (by decide +kernel) rfl
theorem t_330 : (Jvm.Cond.fieldLink "CanoeSides$Calling" (21 : Nat) "CanoeSides$Calling" "sources" "[I") ∈ TB := tb_of 330 (by decide +kernel) rfl
theorem t_331 : (Jvm.Cond.fieldLink "CanoeSides$Calling" (24 : Nat) "CanoeSides$Calling" "pass" "I") ∈ TB := tb_of 331 (by decide +kernel) rfl
theorem t_332 : (Jvm.Cond.fieldLink "CanoeSides$Calling" (28 : Nat) "CanoeSides$Calling" "soonest" "I") ∈ TB := tb_of 332 (by decide +kernel) rfl
theorem t_333 : (Jvm.Cond.fieldLink "CanoeSides$Calling" (31 : Nat) "CanoeSides$Calling" "callsMade" "I") ∈ TB := tb_of 333 (by decide +kernel) rfl
theorem t_334 : (Jvm.Cond.fieldLinkNest "CanoeSides" (198 : Nat) "CanoeSides$Calling" "callsMade" "I" "CanoeSides") ∈ NB := nb_of 334 (by decide +kernel) rfl
theorem t_335 : (Jvm.Cond.fieldLink "CanoeSides$Calling" (34 : Nat) "CanoeSides$Calling" "strokes" "I") ∈ TB := tb_of 335 (by decide +kernel) rfl
theorem t_336 : (Jvm.Cond.fieldLinkNest "CanoeSides" (201 : Nat) "CanoeSides$Calling" "strokes" "I" "CanoeSides") ∈ NB := nb_of 336 (by decide +kernel) rfl
theorem t_337 : (Jvm.Cond.fieldLink "CanoeSides$Calling" (37 : Nat) "CanoeSides$Calling" "lookedFor" "I") ∈ TB := tb_of 337 (by decide +kernel) rfl
theorem t_338 : (Jvm.Cond.laysFinal "CanoeSides$Calling" "CanoeSides$Calling" "before" "[I") ∈ TB := tb_of 338 (by decide +kernel) rfl
theorem t_340 : (Jvm.Cond.laysFinal "CanoeSides$Calling" "CanoeSides$Calling" "least" "[I") ∈ TB := tb_of 340 (by decide +kernel) rfl
theorem t_342 : (Jvm.Cond.laysFinal "CanoeSides$Calling" "CanoeSides$Calling" "passed" "[I") ∈ TB := tb_of 342 (by decide +kernel) rfl
theorem t_344 : (Jvm.Cond.laysFinal "CanoeSides$Calling" "CanoeSides$Calling" "sources" "[I") ∈ TB := tb_of 344 (by decide +kernel) rfl
theorem t_346 : (Jvm.Cond.lays "CanoeSides$Calling" "CanoeSides$Calling" "pass" "I") ∈ TB := tb_of 346 (by decide +kernel) rfl
theorem t_348 : (Jvm.Cond.lays "CanoeSides$Calling" "CanoeSides$Calling" "soonest" "I") ∈ TB := tb_of 348 (by decide +kernel) rfl
theorem t_350 : (Jvm.Cond.lays "CanoeSides$Calling" "CanoeSides$Calling" "callsMade" "I") ∈ TB := tb_of 350 (by decide +kernel) rfl
theorem t_352 : (Jvm.Cond.lays "CanoeSides$Calling" "CanoeSides$Calling" "strokes" "I") ∈ TB := tb_of 352 (by decide +kernel) rfl
theorem t_354 : (Jvm.Cond.lays "CanoeSides$Calling" "CanoeSides$Calling" "lookedFor" "I") ∈ TB := tb_of 354 (by decide +kernel) rfl
theorem t_363 : (Jvm.Cond.fieldLink "CanoeSides$Gusts" (9 : Nat) "CanoeSides$Gusts" "worst" "[I") ∈ TB := tb_of 363 (by decide +kernel) rfl
theorem t_364 : (Jvm.Cond.fieldLink "CanoeSides$Gusts" (15 : Nat) "CanoeSides$Gusts" "strokes" "I") ∈ TB := tb_of 364 (by decide +kernel) rfl
theorem t_365 : (Jvm.Cond.fieldLinkNest "CanoeSides" (230 : Nat) "CanoeSides$Gusts" "strokes" "I" "CanoeSides") ∈ NB := nb_of 365 (by decide +kernel) rfl
theorem t_366 : (Jvm.Cond.fieldLink "CanoeSides$Gusts" (19 : Nat) "CanoeSides$Gusts" "firstPair" "I") ∈ TB := tb_of 366 (by decide +kernel) rfl
theorem t_367 : (Jvm.Cond.fieldLinkNest "CanoeSides" (231 : Nat) "CanoeSides$Gusts" "firstPair" "I" "CanoeSides") ∈ NB := nb_of 367 (by decide +kernel) rfl
theorem t_368 : (Jvm.Cond.fieldLink "CanoeSides$Gusts" (22 : Nat) "CanoeSides$Gusts" "lookedFor" "I") ∈ TB := tb_of 368 (by decide +kernel) rfl
theorem t_369 : (Jvm.Cond.laysFinal "CanoeSides$Gusts" "CanoeSides$Gusts" "worst" "[I") ∈ TB := tb_of 369 (by decide +kernel) rfl
theorem t_371 : (Jvm.Cond.lays "CanoeSides$Gusts" "CanoeSides$Gusts" "strokes" "I") ∈ TB := tb_of 371 (by decide +kernel) rfl
theorem t_373 : (Jvm.Cond.lays "CanoeSides$Gusts" "CanoeSides$Gusts" "firstPair" "I") ∈ TB := tb_of 373 (by decide +kernel) rfl
theorem t_375 : (Jvm.Cond.lays "CanoeSides$Gusts" "CanoeSides$Gusts" "lookedFor" "I") ∈ TB := tb_of 375 (by decide +kernel) rfl
theorem t_386 : (Jvm.Cond.methodLink "CanoeSides$Waters" (27 : Nat) ({ cls := "java/lang/Math", name := "max", desc := "(II)I" } : Jvm.MethodName)) ∈ TB := tb_of 386 (by decide +kernel) rfl
theorem t_389 : (Jvm.Cond.methodLink "CanoeSides$Waters" (33 : Nat) ({ cls := "CanoeSides$River", name := "blown", desc := "(I)I" } : Jvm.MethodName)) ∈ TB := tb_of 389 (by decide +kernel) rfl
theorem t_390 : (Jvm.Cond.instanceMethod ({ cls := "CanoeSides$River", name := "blown", desc := "(I)I" } : Jvm.MethodName)) ∈ TB := tb_of 390 (by decide +kernel) rfl
theorem t_391 : (Jvm.Cond.selects "CanoeSides$River" ({ cls := "CanoeSides$River", name := "blown", desc := "(I)I" } : Jvm.MethodName) ({ cls := "CanoeSides$River", name := "blown", desc := "(I)I" } : Jvm.MethodName)) ∈ TB := tb_of 391 (by decide +kernel) rfl
theorem t_392 : (Jvm.Cond.code ({ cls := "CanoeSides$River", name := "blown", desc := "(I)I" } : Jvm.MethodName) prog_9_method_10_code (2 : Nat) (Option.some Jvm.ClassFile.FieldType.int)) ∈ TB := tb_of 392 (by decide +kernel) rfl
theorem t_393 : (Jvm.Cond.methodLink "CanoeSides$River" (73 : Nat) ({ cls := "CanoeSides$River", name := "neighbour", desc := "(II)I" } : Jvm.MethodName)) ∈ TB := tb_of 393 (by decide +kernel) rfl
theorem t_394 : (Jvm.Cond.instanceMethod ({ cls := "CanoeSides$River", name := "neighbour", desc := "(II)I" } : Jvm.MethodName)) ∈ TB := tb_of 394 (by decide +kernel) rfl
theorem t_395 : (Jvm.Cond.selects "CanoeSides$River" ({ cls := "CanoeSides$River", name := "neighbour", desc := "(II)I" } : Jvm.MethodName) ({ cls := "CanoeSides$River", name := "neighbour", desc := "(II)I" } : Jvm.MethodName)) ∈ TB := tb_of 395 (by decide +kernel) rfl
theorem t_396 : (Jvm.Cond.code ({ cls := "CanoeSides$River", name := "neighbour", desc := "(II)I" } : Jvm.MethodName) prog_9_method_8_code (6 : Nat) (Option.some Jvm.ClassFile.FieldType.int)) ∈ TB := tb_of 396 (by decide +kernel) rfl
theorem t_397 : (Jvm.Cond.methodLinkNest "CanoeSides$River" (58 : Nat) ({ cls := "CanoeSides", name := "eastOf", desc := "(I)I" } : Jvm.MethodName) "CanoeSides") ∈ NB := nb_of 397 (by decide +kernel) rfl
theorem t_398 : (Jvm.Cond.static ({ cls := "CanoeSides", name := "eastOf", desc := "(I)I" } : Jvm.MethodName)) ∈ TB := tb_of 398 (by decide +kernel) rfl
theorem t_399 : (Jvm.Cond.code ({ cls := "CanoeSides", name := "eastOf", desc := "(I)I" } : Jvm.MethodName) prog_1_method_37_code (1 : Nat) (Option.some Jvm.ClassFile.FieldType.int)) ∈ TB := tb_of 399 (by decide +kernel) rfl
theorem t_400 : (Jvm.Cond.fieldLink "CanoeSides" (286 : Nat) "CanoeSides" "EAST" "[I") ∈ TB := tb_of 400 (by decide +kernel) rfl
theorem t_402 : (Jvm.Cond.methodLinkNest "CanoeSides$River" (62 : Nat) ({ cls := "CanoeSides", name := "southOf", desc := "(I)I" } : Jvm.MethodName) "CanoeSides") ∈ NB := nb_of 402 (by decide +kernel) rfl
theorem t_403 : (Jvm.Cond.static ({ cls := "CanoeSides", name := "southOf", desc := "(I)I" } : Jvm.MethodName)) ∈ TB := tb_of 403 (by decide +kernel) rfl
theorem t_404 : (Jvm.Cond.code ({ cls := "CanoeSides", name := "southOf", desc := "(I)I" } : Jvm.MethodName) prog_1_method_38_code (1 : Nat) (Option.some Jvm.ClassFile.FieldType.int)) ∈ TB := tb_of 404 (by decide +kernel) rfl
theorem t_405 : (Jvm.Cond.fieldLink "CanoeSides" (289 : Nat) "CanoeSides" "SOUTH" "[I") ∈ TB := tb_of 405 (by decide +kernel) rfl
theorem t_407 : (Jvm.Cond.methodLink "CanoeSides$River" (65 : Nat) ({ cls := "CanoeSides$River", name := "kindOf", desc := "(I)I" } : Jvm.MethodName)) ∈ TB := tb_of 407 (by decide +kernel) rfl
theorem t_408 : (Jvm.Cond.instanceMethod ({ cls := "CanoeSides$River", name := "kindOf", desc := "(I)I" } : Jvm.MethodName)) ∈ TB := tb_of 408 (by decide +kernel) rfl
theorem t_409 : (Jvm.Cond.selects "CanoeSides$River" ({ cls := "CanoeSides$River", name := "kindOf", desc := "(I)I" } : Jvm.MethodName) ({ cls := "CanoeSides$River", name := "kindOf", desc := "(I)I" } : Jvm.MethodName)) ∈ TB := tb_of 409 (by decide +kernel) rfl
theorem t_410 : (Jvm.Cond.code ({ cls := "CanoeSides$River", name := "kindOf", desc := "(I)I" } : Jvm.MethodName) prog_9_method_3_code (2 : Nat) (Option.some Jvm.ClassFile.FieldType.int)) ∈ TB := tb_of 410 (by decide +kernel) rfl
theorem t_411 : (Jvm.Cond.methodLink "CanoeSides$Waters" (36 : Nat) ({ cls := "CanoeSides$River", name := "pushed", desc := "(III)I" } : Jvm.MethodName)) ∈ TB := tb_of 411 (by decide +kernel) rfl
theorem t_412 : (Jvm.Cond.instanceMethod ({ cls := "CanoeSides$River", name := "pushed", desc := "(III)I" } : Jvm.MethodName)) ∈ TB := tb_of 412 (by decide +kernel) rfl
theorem t_413 : (Jvm.Cond.selects "CanoeSides$River" ({ cls := "CanoeSides$River", name := "pushed", desc := "(III)I" } : Jvm.MethodName) ({ cls := "CanoeSides$River", name := "pushed", desc := "(III)I" } : Jvm.MethodName)) ∈ TB := tb_of 413 (by decide +kernel) rfl
theorem t_414 : (Jvm.Cond.code ({ cls := "CanoeSides$River", name := "pushed", desc := "(III)I" } : Jvm.MethodName) prog_9_method_9_code (8 : Nat) (Option.some Jvm.ClassFile.FieldType.int)) ∈ TB := tb_of 414 (by decide +kernel) rfl
theorem t_415 : (Jvm.Cond.methodLink "CanoeSides$River" (68 : Nat) ({ cls := "java/lang/Math", name := "abs", desc := "(I)I" } : Jvm.MethodName)) ∈ TB := tb_of 415 (by decide +kernel) rfl
theorem t_422 : (Jvm.Cond.methodLink "CanoeSides$Crew" (31 : Nat) ({ cls := "CanoeSides$Crew", name := "turning", desc := "(I)I" } : Jvm.MethodName)) ∈ TB := tb_of 422 (by decide +kernel) rfl
theorem t_423 : (Jvm.Cond.static ({ cls := "CanoeSides$Crew", name := "turning", desc := "(I)I" } : Jvm.MethodName)) ∈ TB := tb_of 423 (by decide +kernel) rfl
theorem t_424 : (Jvm.Cond.code ({ cls := "CanoeSides$Crew", name := "turning", desc := "(I)I" } : Jvm.MethodName) prog_4_method_3_code (1 : Nat) (Option.some Jvm.ClassFile.FieldType.int)) ∈ TB := tb_of 424 (by decide +kernel) rfl
theorem t_425 : (Jvm.Cond.methodLink "CanoeSides$Crew" (38 : Nat) ({ cls := "java/lang/Math", name := "max", desc := "(II)I" } : Jvm.MethodName)) ∈ TB := tb_of 425 (by decide +kernel) rfl
theorem t_426 : (Jvm.Cond.methodLink "CanoeSides$Crew" (44 : Nat) ({ cls := "CanoeSides$Crew", name := "pushing", desc := "(I)I" } : Jvm.MethodName)) ∈ TB := tb_of 426 (by decide +kernel) rfl
theorem t_427 : (Jvm.Cond.static ({ cls := "CanoeSides$Crew", name := "pushing", desc := "(I)I" } : Jvm.MethodName)) ∈ TB := tb_of 427 (by decide +kernel) rfl
theorem t_428 : (Jvm.Cond.code ({ cls := "CanoeSides$Crew", name := "pushing", desc := "(I)I" } : Jvm.MethodName) prog_4_method_4_code (1 : Nat) (Option.some Jvm.ClassFile.FieldType.int)) ∈ TB := tb_of 428 (by decide +kernel) rfl
theorem t_429 : (Jvm.Cond.methodLink "CanoeSides$Crew" (50 : Nat) ({ cls := "java/lang/Math", name := "min", desc := "(II)I" } : Jvm.MethodName)) ∈ TB := tb_of 429 (by decide +kernel) rfl
theorem t_436 : (Jvm.Cond.methodLink "CanoeSides" (272 : Nat) ({ cls := "CanoeSides$Lines", name := "empty", desc := "()V" } : Jvm.MethodName)) ∈ TB := tb_of 436 (by decide +kernel) rfl
theorem t_437 : (Jvm.Cond.instanceMethod ({ cls := "CanoeSides$Lines", name := "empty", desc := "()V" } : Jvm.MethodName)) ∈ TB := tb_of 437 (by decide +kernel) rfl
theorem t_438 : (Jvm.Cond.selects "CanoeSides$Lines" ({ cls := "CanoeSides$Lines", name := "empty", desc := "()V" } : Jvm.MethodName) ({ cls := "CanoeSides$Lines", name := "empty", desc := "()V" } : Jvm.MethodName)) ∈ TB := tb_of 438 (by decide +kernel) rfl
theorem t_439 : (Jvm.Cond.code ({ cls := "CanoeSides$Lines", name := "empty", desc := "()V" } : Jvm.MethodName) prog_6_method_4_code (1 : Nat) (Option.none : Option Jvm.ClassFile.FieldType)) ∈ TB := tb_of 439 (by decide +kernel) rfl
theorem t_452 : (Jvm.Cond.fieldLink "CanoeSides" (9 : Nat) "CanoeSides" "letters" "[I") ∈ TB := tb_of 452 (by decide +kernel) rfl
theorem t_453 : (Jvm.Cond.fieldLink "CanoeSides" (13 : Nat) "CanoeSides" "lettersTold" "I") ∈ TB := tb_of 453 (by decide +kernel) rfl
theorem t_454 : (Jvm.Cond.fieldLink "CanoeSides" (17 : Nat) "CanoeSides" "faultPlace" "I") ∈ TB := tb_of 454 (by decide +kernel) rfl
theorem t_455 : (Jvm.Cond.fieldLink "CanoeSides" (23 : Nat) "CanoeSides" "course" "LCanoeSides$River;") ∈ TB := tb_of 455 (by decide +kernel) rfl
theorem t_456 : (Jvm.Cond.fieldLink "CanoeSides" (30 : Nat) "CanoeSides" "waters" "LCanoeSides$Waters;") ∈ TB := tb_of 456 (by decide +kernel) rfl
theorem t_457 : (Jvm.Cond.fieldLink "CanoeSides" (39 : Nat) "CanoeSides" "crew" "LCanoeSides$Crew;") ∈ TB := tb_of 457 (by decide +kernel) rfl
theorem t_459 : (Jvm.Cond.fieldLink "CanoeSides" (49 : Nat) "CanoeSides" "boat" "LCanoeSides$Boat;") ∈ TB := tb_of 459 (by decide +kernel) rfl
theorem t_461 : (Jvm.Cond.fieldLink "CanoeSides" (60 : Nat) "CanoeSides" "log" "LCanoeSides$Log;") ∈ TB := tb_of 461 (by decide +kernel) rfl
theorem t_462 : (Jvm.Cond.fieldLink "CanoeSides" (67 : Nat) "CanoeSides" "lines" "LCanoeSides$Lines;") ∈ TB := tb_of 462 (by decide +kernel) rfl
theorem t_463 : (Jvm.Cond.fieldLink "CanoeSides" (74 : Nat) "CanoeSides" "search" "LCanoeSides$Search;") ∈ TB := tb_of 463 (by decide +kernel) rfl
theorem t_464 : (Jvm.Cond.fieldLink "CanoeSides" (81 : Nat) "CanoeSides" "calling" "LCanoeSides$Calling;") ∈ TB := tb_of 464 (by decide +kernel) rfl
theorem t_465 : (Jvm.Cond.fieldLink "CanoeSides" (88 : Nat) "CanoeSides" "gusts" "LCanoeSides$Gusts;") ∈ TB := tb_of 465 (by decide +kernel) rfl
theorem t_466 : (Jvm.Cond.laysFinal "CanoeSides" "CanoeSides" "letters" "[I") ∈ TB := tb_of 466 (by decide +kernel) rfl
theorem t_468 : (Jvm.Cond.lays "CanoeSides" "CanoeSides" "lettersTold" "I") ∈ TB := tb_of 468 (by decide +kernel) rfl
theorem t_470 : (Jvm.Cond.lays "CanoeSides" "CanoeSides" "faultPlace" "I") ∈ TB := tb_of 470 (by decide +kernel) rfl
theorem t_472 : (Jvm.Cond.lays "CanoeSides" "CanoeSides" "course" "LCanoeSides$River;") ∈ TB := tb_of 472 (by decide +kernel) rfl
theorem t_474 : (Jvm.Cond.laysFinal "CanoeSides" "CanoeSides" "waters" "LCanoeSides$Waters;") ∈ TB := tb_of 474 (by decide +kernel) rfl
theorem t_476 : (Jvm.Cond.laysFinal "CanoeSides" "CanoeSides" "crew" "LCanoeSides$Crew;") ∈ TB := tb_of 476 (by decide +kernel) rfl
theorem t_478 : (Jvm.Cond.laysFinal "CanoeSides" "CanoeSides" "three" "LCanoeSides$Crew;") ∈ TB := tb_of 478 (by decide +kernel) rfl
theorem t_480 : (Jvm.Cond.laysFinal "CanoeSides" "CanoeSides" "boat" "LCanoeSides$Boat;") ∈ TB := tb_of 480 (by decide +kernel) rfl
theorem t_482 : (Jvm.Cond.laysFinal "CanoeSides" "CanoeSides" "images" "[LCanoeSides$Boat;") ∈ TB := tb_of 482 (by decide +kernel) rfl
theorem t_484 : (Jvm.Cond.laysFinal "CanoeSides" "CanoeSides" "log" "LCanoeSides$Log;") ∈ TB := tb_of 484 (by decide +kernel) rfl
theorem t_486 : (Jvm.Cond.laysFinal "CanoeSides" "CanoeSides" "lines" "LCanoeSides$Lines;") ∈ TB := tb_of 486 (by decide +kernel) rfl
theorem t_488 : (Jvm.Cond.laysFinal "CanoeSides" "CanoeSides" "search" "LCanoeSides$Search;") ∈ TB := tb_of 488 (by decide +kernel) rfl
theorem t_490 : (Jvm.Cond.laysFinal "CanoeSides" "CanoeSides" "calling" "LCanoeSides$Calling;") ∈ TB := tb_of 490 (by decide +kernel) rfl
theorem t_492 : (Jvm.Cond.laysFinal "CanoeSides" "CanoeSides" "gusts" "LCanoeSides$Gusts;") ∈ TB := tb_of 492 (by decide +kernel) rfl
theorem t_499 : (Jvm.Cond.methodLink "CanoeSides" (96 : Nat) ({ cls := "CanoeSides", name := "isOutside", desc := "(III)Z" } : Jvm.MethodName)) ∈ TB := tb_of 499 (by decide +kernel) rfl
theorem t_500 : (Jvm.Cond.static ({ cls := "CanoeSides", name := "isOutside", desc := "(III)Z" } : Jvm.MethodName)) ∈ TB := tb_of 500 (by decide +kernel) rfl
theorem t_501 : (Jvm.Cond.code ({ cls := "CanoeSides", name := "isOutside", desc := "(III)Z" } : Jvm.MethodName) prog_1_method_33_code (3 : Nat) (Option.some Jvm.ClassFile.FieldType.boolean)) ∈ TB := tb_of 501 (by decide +kernel) rfl
theorem t_502 : (Jvm.Cond.constant "CanoeSides" (100 : Nat) (-1000000002 : Int32)) ∈ TB := tb_of 502 (by decide +kernel) rfl
theorem t_503 : (Jvm.Cond.constant "CanoeSides" (101 : Nat) (-1000000004 : Int32)) ∈ TB := tb_of 503 (by decide +kernel) rfl
theorem t_517 : (Jvm.Cond.fieldLink "CanoeSides$Reader" (34 : Nat) "CanoeSides$Reader" "letters" "[I") ∈ TB := tb_of 517 (by decide +kernel) rfl
theorem t_518 : (Jvm.Cond.fieldLink "CanoeSides$Reader" (44 : Nat) "CanoeSides$Reader" "end" "I") ∈ TB := tb_of 518 (by decide +kernel) rfl
theorem t_519 : (Jvm.Cond.fieldLink "CanoeSides$Reader" (12 : Nat) "CanoeSides$Reader" "course" "LCanoeSides$River;") ∈ TB := tb_of 519 (by decide +kernel) rfl
theorem t_521 : (Jvm.Cond.fieldLink "CanoeSides$Reader" (18 : Nat) "CanoeSides$Reader" "at" "I") ∈ TB := tb_of 521 (by decide +kernel) rfl
theorem t_522 : (Jvm.Cond.fieldLink "CanoeSides$Reader" (22 : Nat) "CanoeSides$Reader" "clausesRead" "I") ∈ TB := tb_of 522 (by decide +kernel) rfl
theorem t_523 : (Jvm.Cond.fieldLink "CanoeSides$Reader" (25 : Nat) "CanoeSides$Reader" "numberPlace" "I") ∈ TB := tb_of 523 (by decide +kernel) rfl
theorem t_524 : (Jvm.Cond.fieldLink "CanoeSides$Reader" (28 : Nat) "CanoeSides$Reader" "fault" "I") ∈ TB := tb_of 524 (by decide +kernel) rfl
theorem t_526 : (Jvm.Cond.fieldLink "CanoeSides$Reader" (31 : Nat) "CanoeSides$Reader" "faultPlace" "I") ∈ TB := tb_of 526 (by decide +kernel) rfl
theorem t_528 : (Jvm.Cond.laysFinal "CanoeSides$Reader" "CanoeSides$Reader" "letters" "[I") ∈ TB := tb_of 528 (by decide +kernel) rfl
theorem t_530 : (Jvm.Cond.laysFinal "CanoeSides$Reader" "CanoeSides$Reader" "end" "I") ∈ TB := tb_of 530 (by decide +kernel) rfl
theorem t_532 : (Jvm.Cond.laysFinal "CanoeSides$Reader" "CanoeSides$Reader" "course" "LCanoeSides$River;") ∈ TB := tb_of 532 (by decide +kernel) rfl
theorem t_534 : (Jvm.Cond.lays "CanoeSides$Reader" "CanoeSides$Reader" "at" "I") ∈ TB := tb_of 534 (by decide +kernel) rfl
theorem t_536 : (Jvm.Cond.lays "CanoeSides$Reader" "CanoeSides$Reader" "clausesRead" "I") ∈ TB := tb_of 536 (by decide +kernel) rfl
theorem t_538 : (Jvm.Cond.lays "CanoeSides$Reader" "CanoeSides$Reader" "numberPlace" "I") ∈ TB := tb_of 538 (by decide +kernel) rfl
theorem t_540 : (Jvm.Cond.lays "CanoeSides$Reader" "CanoeSides$Reader" "fault" "I") ∈ TB := tb_of 540 (by decide +kernel) rfl
theorem t_542 : (Jvm.Cond.lays "CanoeSides$Reader" "CanoeSides$Reader" "faultPlace" "I") ∈ TB := tb_of 542 (by decide +kernel) rfl
theorem t_549 : (Jvm.Cond.methodLink "CanoeSides$Reader" (47 : Nat) ({ cls := "CanoeSides$Reader", name := "skipBlanks", desc := "()V" } : Jvm.MethodName)) ∈ TB := tb_of 549 (by decide +kernel) rfl
theorem t_551 : (Jvm.Cond.instanceMethod ({ cls := "CanoeSides$Reader", name := "skipBlanks", desc := "()V" } : Jvm.MethodName)) ∈ TB := tb_of 551 (by decide +kernel) rfl
theorem t_552 : (Jvm.Cond.code ({ cls := "CanoeSides$Reader", name := "skipBlanks", desc := "()V" } : Jvm.MethodName) prog_8_method_14_code (1 : Nat) (Option.none : Option Jvm.ClassFile.FieldType)) ∈ TB := tb_of 552 (by decide +kernel) rfl
theorem t_553 : (Jvm.Cond.methodLink "CanoeSides$Reader" (50 : Nat) ({ cls := "CanoeSides$Reader", name := "readClause", desc := "()V" } : Jvm.MethodName)) ∈ TB := tb_of 553 (by decide +kernel) rfl
theorem t_555 : (Jvm.Cond.instanceMethod ({ cls := "CanoeSides$Reader", name := "readClause", desc := "()V" } : Jvm.MethodName)) ∈ TB := tb_of 555 (by decide +kernel) rfl
theorem t_556 : (Jvm.Cond.code ({ cls := "CanoeSides$Reader", name := "readClause", desc := "()V" } : Jvm.MethodName) prog_8_method_3_code (2 : Nat) (Option.none : Option Jvm.ClassFile.FieldType)) ∈ TB := tb_of 556 (by decide +kernel) rfl
theorem t_558 : (Jvm.Cond.methodLink "CanoeSides$Reader" (55 : Nat) ({ cls := "CanoeSides$Reader", name := "letterHere", desc := "()I" } : Jvm.MethodName)) ∈ TB := tb_of 558 (by decide +kernel) rfl
theorem t_560 : (Jvm.Cond.instanceMethod ({ cls := "CanoeSides$Reader", name := "letterHere", desc := "()I" } : Jvm.MethodName)) ∈ TB := tb_of 560 (by decide +kernel) rfl
theorem t_561 : (Jvm.Cond.code ({ cls := "CanoeSides$Reader", name := "letterHere", desc := "()I" } : Jvm.MethodName) prog_8_method_15_code (1 : Nat) (Option.some Jvm.ClassFile.FieldType.int)) ∈ TB := tb_of 561 (by decide +kernel) rfl
theorem t_562 : (Jvm.Cond.methodLink "CanoeSides$Reader" (59 : Nat) ({ cls := "java/lang/String", name := "indexOf", desc := "(I)I" } : Jvm.MethodName)) ∈ TB := tb_of 562 (by decide +kernel) rfl
theorem t_566 : (Jvm.Cond.methodLink "java/lang/String" (633 : Nat) ({ cls := "java/lang/String", name := "indexOf", desc := "(II)I" } : Jvm.MethodName)) ∈ TB := tb_of 566 (by decide +kernel) rfl
theorem t_567 : (Jvm.Cond.instanceMethod ({ cls := "java/lang/String", name := "indexOf", desc := "(II)I" } : Jvm.MethodName)) ∈ TB := tb_of 567 (by decide +kernel) rfl
theorem t_568 : (Jvm.Cond.selects "java/lang/String" ({ cls := "java/lang/String", name := "indexOf", desc := "(II)I" } : Jvm.MethodName) ({ cls := "java/lang/String", name := "indexOf", desc := "(II)I" } : Jvm.MethodName)) ∈ TB := tb_of 568 (by decide +kernel) rfl
theorem t_569 : (Jvm.Cond.code ({ cls := "java/lang/String", name := "indexOf", desc := "(II)I" } : Jvm.MethodName) prog_16_method_80_code (3 : Nat) (Option.some Jvm.ClassFile.FieldType.int)) ∈ TB := tb_of 569 (by decide +kernel) rfl
theorem t_570 : (Jvm.Cond.methodLink "java/lang/String" (492 : Nat) ({ cls := "java/lang/String", name := "isLatin1", desc := "()Z" } : Jvm.MethodName)) ∈ TB := tb_of 570 (by decide +kernel) rfl
theorem t_571 : (Jvm.Cond.instanceMethod ({ cls := "java/lang/String", name := "isLatin1", desc := "()Z" } : Jvm.MethodName)) ∈ TB := tb_of 571 (by decide +kernel) rfl
theorem t_572 : (Jvm.Cond.selects "java/lang/String" ({ cls := "java/lang/String", name := "isLatin1", desc := "()Z" } : Jvm.MethodName) ({ cls := "java/lang/String", name := "isLatin1", desc := "()Z" } : Jvm.MethodName)) ∈ TB := tb_of 572 (by decide +kernel) rfl
theorem t_573 : (Jvm.Cond.code ({ cls := "java/lang/String", name := "isLatin1", desc := "()Z" } : Jvm.MethodName) prog_16_method_154_code (1 : Nat) (Option.some Jvm.ClassFile.FieldType.boolean)) ∈ TB := tb_of 573 (by decide +kernel) rfl
theorem t_574 : (Jvm.Cond.fieldLink "java/lang/String" (38 : Nat) "java/lang/String" "COMPACT_STRINGS" "Z") ∈ TB := tb_of 574 (by decide +kernel) rfl
theorem t_576 : (Jvm.Cond.methodLink "java/lang/String" (505 : Nat) ({ cls := "java/lang/String", name := "length", desc := "()I" } : Jvm.MethodName)) ∈ TB := tb_of 576 (by decide +kernel) rfl
theorem t_577 : (Jvm.Cond.instanceMethod ({ cls := "java/lang/String", name := "length", desc := "()I" } : Jvm.MethodName)) ∈ TB := tb_of 577 (by decide +kernel) rfl
theorem t_578 : (Jvm.Cond.selects "java/lang/String" ({ cls := "java/lang/String", name := "length", desc := "()I" } : Jvm.MethodName) ({ cls := "java/lang/String", name := "length", desc := "()I" } : Jvm.MethodName)) ∈ TB := tb_of 578 (by decide +kernel) rfl
theorem t_579 : (Jvm.Cond.code ({ cls := "java/lang/String", name := "length", desc := "()I" } : Jvm.MethodName) prog_16_method_54_code (1 : Nat) (Option.some Jvm.ClassFile.FieldType.int)) ∈ TB := tb_of 579 (by decide +kernel) rfl
theorem t_580 : (Jvm.Cond.methodLink "java/lang/String" (335 : Nat) ({ cls := "java/lang/String", name := "coder", desc := "()B" } : Jvm.MethodName)) ∈ TB := tb_of 580 (by decide +kernel) rfl
theorem t_581 : (Jvm.Cond.instanceMethod ({ cls := "java/lang/String", name := "coder", desc := "()B" } : Jvm.MethodName)) ∈ TB := tb_of 581 (by decide +kernel) rfl
theorem t_582 : (Jvm.Cond.selects "java/lang/String" ({ cls := "java/lang/String", name := "coder", desc := "()B" } : Jvm.MethodName) ({ cls := "java/lang/String", name := "coder", desc := "()B" } : Jvm.MethodName)) ∈ TB := tb_of 582 (by decide +kernel) rfl
theorem t_583 : (Jvm.Cond.code ({ cls := "java/lang/String", name := "coder", desc := "()B" } : Jvm.MethodName) prog_16_method_152_code (1 : Nat) (Option.some Jvm.ClassFile.FieldType.byte)) ∈ TB := tb_of 583 (by decide +kernel) rfl
theorem t_584 : (Jvm.Cond.methodLink "java/lang/String" (637 : Nat) ({ cls := "java/lang/StringLatin1", name := "indexOf", desc := "([BIII)I" } : Jvm.MethodName)) ∈ TB := tb_of 584 (by decide +kernel) rfl
theorem t_585 : (Jvm.Cond.static ({ cls := "java/lang/StringLatin1", name := "indexOf", desc := "([BIII)I" } : Jvm.MethodName)) ∈ TB := tb_of 585 (by decide +kernel) rfl
theorem t_586 : (Jvm.Cond.code ({ cls := "java/lang/StringLatin1", name := "indexOf", desc := "([BIII)I" } : Jvm.MethodName) prog_17_method_22_code (4 : Nat) (Option.some Jvm.ClassFile.FieldType.int)) ∈ TB := tb_of 586 (by decide +kernel) rfl
theorem t_587 : (Jvm.Cond.methodLink "java/lang/StringLatin1" (88 : Nat) ({ cls := "java/lang/StringLatin1", name := "canEncode", desc := "(I)Z" } : Jvm.MethodName)) ∈ TB := tb_of 587 (by decide +kernel) rfl
theorem t_588 : (Jvm.Cond.static ({ cls := "java/lang/StringLatin1", name := "canEncode", desc := "(I)Z" } : Jvm.MethodName)) ∈ TB := tb_of 588 (by decide +kernel) rfl
theorem t_589 : (Jvm.Cond.code ({ cls := "java/lang/StringLatin1", name := "canEncode", desc := "(I)Z" } : Jvm.MethodName) prog_17_method_4_code (1 : Nat) (Option.some Jvm.ClassFile.FieldType.boolean)) ∈ TB := tb_of 589 (by decide +kernel) rfl
theorem t_590 : (Jvm.Cond.methodLink "java/lang/StringLatin1" (92 : Nat) ({ cls := "java/lang/Math", name := "max", desc := "(II)I" } : Jvm.MethodName)) ∈ TB := tb_of 590 (by decide +kernel) rfl
theorem t_591 : (Jvm.Cond.methodLink "java/lang/StringLatin1" (38 : Nat) ({ cls := "java/lang/Math", name := "min", desc := "(II)I" } : Jvm.MethodName)) ∈ TB := tb_of 591 (by decide +kernel) rfl
theorem t_592 : (Jvm.Cond.methodLink "java/lang/StringLatin1" (95 : Nat) ({ cls := "java/lang/StringLatin1", name := "indexOfChar", desc := "([BIII)I" } : Jvm.MethodName)) ∈ TB := tb_of 592 (by decide +kernel) rfl
theorem t_593 : (Jvm.Cond.static ({ cls := "java/lang/StringLatin1", name := "indexOfChar", desc := "([BIII)I" } : Jvm.MethodName)) ∈ TB := tb_of 593 (by decide +kernel) rfl
theorem t_594 : (Jvm.Cond.code ({ cls := "java/lang/StringLatin1", name := "indexOfChar", desc := "([BIII)I" } : Jvm.MethodName) prog_17_method_23_code (6 : Nat) (Option.some Jvm.ClassFile.FieldType.int)) ∈ TB := tb_of 594 (by decide +kernel) rfl
theorem t_644 : (Jvm.Cond.methodLink "CanoeSides$Reader" (65 : Nat) ({ cls := "CanoeSides$Reader", name := "fail", desc := "(II)V" } : Jvm.MethodName)) ∈ TB := tb_of 644 (by decide +kernel) rfl
theorem t_646 : (Jvm.Cond.instanceMethod ({ cls := "CanoeSides$Reader", name := "fail", desc := "(II)V" } : Jvm.MethodName)) ∈ TB := tb_of 646 (by decide +kernel) rfl
theorem t_647 : (Jvm.Cond.code ({ cls := "CanoeSides$Reader", name := "fail", desc := "(II)V" } : Jvm.MethodName) prog_8_method_17_code (3 : Nat) (Option.none : Option Jvm.ClassFile.FieldType)) ∈ TB := tb_of 647 (by decide +kernel) rfl
theorem t_648 : (Jvm.Cond.methodLink "CanoeSides$Reader" (69 : Nat) ({ cls := "CanoeSides$Reader", name := "readSquares", desc := "()V" } : Jvm.MethodName)) ∈ TB := tb_of 648 (by decide +kernel) rfl
theorem t_650 : (Jvm.Cond.instanceMethod ({ cls := "CanoeSides$Reader", name := "readSquares", desc := "()V" } : Jvm.MethodName)) ∈ TB := tb_of 650 (by decide +kernel) rfl
theorem t_651 : (Jvm.Cond.code ({ cls := "CanoeSides$Reader", name := "readSquares", desc := "()V" } : Jvm.MethodName) prog_8_method_4_code (6 : Nat) (Option.none : Option Jvm.ClassFile.FieldType)) ∈ TB := tb_of 651 (by decide +kernel) rfl
theorem t_652 : (Jvm.Cond.methodLink "CanoeSides$Reader" (90 : Nat) ({ cls := "CanoeSides$Reader", name := "readNumber", desc := "(II)I" } : Jvm.MethodName)) ∈ TB := tb_of 652 (by decide +kernel) rfl
theorem t_654 : (Jvm.Cond.instanceMethod ({ cls := "CanoeSides$Reader", name := "readNumber", desc := "(II)I" } : Jvm.MethodName)) ∈ TB := tb_of 654 (by decide +kernel) rfl
theorem t_655 : (Jvm.Cond.code ({ cls := "CanoeSides$Reader", name := "readNumber", desc := "(II)I" } : Jvm.MethodName) prog_8_method_11_code (5 : Nat) (Option.some Jvm.ClassFile.FieldType.int)) ∈ TB := tb_of 655 (by decide +kernel) rfl
theorem t_656 : (Jvm.Cond.methodLink "CanoeSides$Reader" (149 : Nat) ({ cls := "CanoeSides$Reader", name := "isFigure", desc := "(I)Z" } : Jvm.MethodName)) ∈ TB := tb_of 656 (by decide +kernel) rfl
theorem t_657 : (Jvm.Cond.static ({ cls := "CanoeSides$Reader", name := "isFigure", desc := "(I)Z" } : Jvm.MethodName)) ∈ TB := tb_of 657 (by decide +kernel) rfl
theorem t_658 : (Jvm.Cond.code ({ cls := "CanoeSides$Reader", name := "isFigure", desc := "(I)Z" } : Jvm.MethodName) prog_8_method_16_code (1 : Nat) (Option.some Jvm.ClassFile.FieldType.boolean)) ∈ TB := tb_of 658 (by decide +kernel) rfl
theorem t_660 : (Jvm.Cond.methodLink "CanoeSides$Reader" (95 : Nat) ({ cls := "CanoeSides$Reader", name := "readOneOf", desc := "(Ljava/lang/String;)I" } : Jvm.MethodName)) ∈ TB := tb_of 660 (by decide +kernel) rfl
theorem t_662 : (Jvm.Cond.instanceMethod ({ cls := "CanoeSides$Reader", name := "readOneOf", desc := "(Ljava/lang/String;)I" } : Jvm.MethodName)) ∈ TB := tb_of 662 (by decide +kernel) rfl
theorem t_663 : (Jvm.Cond.code ({ cls := "CanoeSides$Reader", name := "readOneOf", desc := "(Ljava/lang/String;)I" } : Jvm.MethodName) prog_8_method_12_code (3 : Nat) (Option.some Jvm.ClassFile.FieldType.int)) ∈ TB := tb_of 663 (by decide +kernel) rfl
theorem t_664 : (Jvm.Cond.methodLink "CanoeSides$Reader" (99 : Nat) ({ cls := "CanoeSides$River", name := "putKind", desc := "(II)V" } : Jvm.MethodName)) ∈ TB := tb_of 664 (by decide +kernel) rfl
theorem t_665 : (Jvm.Cond.instanceMethod ({ cls := "CanoeSides$River", name := "putKind", desc := "(II)V" } : Jvm.MethodName)) ∈ TB := tb_of 665 (by decide +kernel) rfl
theorem t_666 : (Jvm.Cond.selects "CanoeSides$River" ({ cls := "CanoeSides$River", name := "putKind", desc := "(II)V" } : Jvm.MethodName) ({ cls := "CanoeSides$River", name := "putKind", desc := "(II)V" } : Jvm.MethodName)) ∈ TB := tb_of 666 (by decide +kernel) rfl
theorem t_667 : (Jvm.Cond.code ({ cls := "CanoeSides$River", name := "putKind", desc := "(II)V" } : Jvm.MethodName) prog_9_method_4_code (3 : Nat) (Option.none : Option Jvm.ClassFile.FieldType)) ∈ TB := tb_of 667 (by decide +kernel) rfl
theorem t_668 : (Jvm.Cond.methodLink "CanoeSides$Reader" (102 : Nat) ({ cls := "CanoeSides$River", name := "firstOpen", desc := "()I" } : Jvm.MethodName)) ∈ TB := tb_of 668 (by decide +kernel) rfl
theorem t_669 : (Jvm.Cond.instanceMethod ({ cls := "CanoeSides$River", name := "firstOpen", desc := "()I" } : Jvm.MethodName)) ∈ TB := tb_of 669 (by decide +kernel) rfl
theorem t_670 : (Jvm.Cond.selects "CanoeSides$River" ({ cls := "CanoeSides$River", name := "firstOpen", desc := "()I" } : Jvm.MethodName) ({ cls := "CanoeSides$River", name := "firstOpen", desc := "()I" } : Jvm.MethodName)) ∈ TB := tb_of 670 (by decide +kernel) rfl
theorem t_671 : (Jvm.Cond.code ({ cls := "CanoeSides$River", name := "firstOpen", desc := "()I" } : Jvm.MethodName) prog_9_method_7_code (2 : Nat) (Option.some Jvm.ClassFile.FieldType.int)) ∈ TB := tb_of 671 (by decide +kernel) rfl
theorem t_672 : (Jvm.Cond.methodLink "CanoeSides$Reader" (72 : Nat) ({ cls := "CanoeSides$Reader", name := "readStrengths", desc := "()V" } : Jvm.MethodName)) ∈ TB := tb_of 672 (by decide +kernel) rfl
theorem t_674 : (Jvm.Cond.instanceMethod ({ cls := "CanoeSides$Reader", name := "readStrengths", desc := "()V" } : Jvm.MethodName)) ∈ TB := tb_of 674 (by decide +kernel) rfl
theorem t_675 : (Jvm.Cond.code ({ cls := "CanoeSides$Reader", name := "readStrengths", desc := "()V" } : Jvm.MethodName) prog_8_method_5_code (1 : Nat) (Option.none : Option Jvm.ClassFile.FieldType)) ∈ TB := tb_of 675 (by decide +kernel) rfl
theorem t_676 : (Jvm.Cond.methodLink "CanoeSides$Reader" (75 : Nat) ({ cls := "CanoeSides$Reader", name := "readBoat", desc := "()V" } : Jvm.MethodName)) ∈ TB := tb_of 676 (by decide +kernel) rfl
theorem t_678 : (Jvm.Cond.instanceMethod ({ cls := "CanoeSides$Reader", name := "readBoat", desc := "()V" } : Jvm.MethodName)) ∈ TB := tb_of 678 (by decide +kernel) rfl
theorem t_679 : (Jvm.Cond.code ({ cls := "CanoeSides$Reader", name := "readBoat", desc := "()V" } : Jvm.MethodName) prog_8_method_6_code (2 : Nat) (Option.none : Option Jvm.ClassFile.FieldType)) ∈ TB := tb_of 679 (by decide +kernel) rfl
theorem t_680 : (Jvm.Cond.methodLink "CanoeSides$Reader" (126 : Nat) ({ cls := "CanoeSides$Reader", name := "readSquare", desc := "()I" } : Jvm.MethodName)) ∈ TB := tb_of 680 (by decide +kernel) rfl
theorem t_682 : (Jvm.Cond.instanceMethod ({ cls := "CanoeSides$Reader", name := "readSquare", desc := "()I" } : Jvm.MethodName)) ∈ TB := tb_of 682 (by decide +kernel) rfl
theorem t_683 : (Jvm.Cond.code ({ cls := "CanoeSides$Reader", name := "readSquare", desc := "()I" } : Jvm.MethodName) prog_8_method_10_code (4 : Nat) (Option.some Jvm.ClassFile.FieldType.int)) ∈ TB := tb_of 683 (by decide +kernel) rfl
theorem t_684 : (Jvm.Cond.methodLink "CanoeSides$Reader" (146 : Nat) ({ cls := "CanoeSides$River", name := "kindOf", desc := "(I)I" } : Jvm.MethodName)) ∈ TB := tb_of 684 (by decide +kernel) rfl
theorem t_685 : (Jvm.Cond.methodLink "CanoeSides$Reader" (78 : Nat) ({ cls := "CanoeSides$Reader", name := "readGoal", desc := "()V" } : Jvm.MethodName)) ∈ TB := tb_of 685 (by decide +kernel) rfl
theorem t_687 : (Jvm.Cond.instanceMethod ({ cls := "CanoeSides$Reader", name := "readGoal", desc := "()V" } : Jvm.MethodName)) ∈ TB := tb_of 687 (by decide +kernel) rfl
theorem t_688 : (Jvm.Cond.code ({ cls := "CanoeSides$Reader", name := "readGoal", desc := "()V" } : Jvm.MethodName) prog_8_method_7_code (1 : Nat) (Option.none : Option Jvm.ClassFile.FieldType)) ∈ TB := tb_of 688 (by decide +kernel) rfl
theorem t_689 : (Jvm.Cond.methodLink "CanoeSides$Reader" (81 : Nat) ({ cls := "CanoeSides$Reader", name := "readWind", desc := "()V" } : Jvm.MethodName)) ∈ TB := tb_of 689 (by decide +kernel) rfl
theorem t_691 : (Jvm.Cond.instanceMethod ({ cls := "CanoeSides$Reader", name := "readWind", desc := "()V" } : Jvm.MethodName)) ∈ TB := tb_of 691 (by decide +kernel) rfl
theorem t_692 : (Jvm.Cond.code ({ cls := "CanoeSides$Reader", name := "readWind", desc := "()V" } : Jvm.MethodName) prog_8_method_8_code (1 : Nat) (Option.none : Option Jvm.ClassFile.FieldType)) ∈ TB := tb_of 692 (by decide +kernel) rfl
theorem t_693 : (Jvm.Cond.methodLink "CanoeSides$Reader" (84 : Nat) ({ cls := "CanoeSides$Reader", name := "readHabits", desc := "()V" } : Jvm.MethodName)) ∈ TB := tb_of 693 (by decide +kernel) rfl
theorem t_695 : (Jvm.Cond.instanceMethod ({ cls := "CanoeSides$Reader", name := "readHabits", desc := "()V" } : Jvm.MethodName)) ∈ TB := tb_of 695 (by decide +kernel) rfl
theorem t_696 : (Jvm.Cond.code ({ cls := "CanoeSides$Reader", name := "readHabits", desc := "()V" } : Jvm.MethodName) prog_8_method_9_code (2 : Nat) (Option.none : Option Jvm.ClassFile.FieldType)) ∈ TB := tb_of 696 (by decide +kernel) rfl
theorem t_698 : (Jvm.Cond.methodLink "CanoeSides$Reader" (87 : Nat) ({ cls := "CanoeSides$Reader", name := "readEnd", desc := "()V" } : Jvm.MethodName)) ∈ TB := tb_of 698 (by decide +kernel) rfl
theorem t_700 : (Jvm.Cond.instanceMethod ({ cls := "CanoeSides$Reader", name := "readEnd", desc := "()V" } : Jvm.MethodName)) ∈ TB := tb_of 700 (by decide +kernel) rfl
theorem t_701 : (Jvm.Cond.code ({ cls := "CanoeSides$Reader", name := "readEnd", desc := "()V" } : Jvm.MethodName) prog_8_method_13_code (1 : Nat) (Option.none : Option Jvm.ClassFile.FieldType)) ∈ TB := tb_of 701 (by decide +kernel) rfl
theorem t_711 : (Jvm.Cond.methodLink "CanoeSides" (121 : Nat) ({ cls := "CanoeSides", name := "toldOfText", desc := "(I)I" } : Jvm.MethodName)) ∈ TB := tb_of 711 (by decide +kernel) rfl
theorem t_713 : (Jvm.Cond.instanceMethod ({ cls := "CanoeSides", name := "toldOfText", desc := "(I)I" } : Jvm.MethodName)) ∈ TB := tb_of 713 (by decide +kernel) rfl
theorem t_714 : (Jvm.Cond.code ({ cls := "CanoeSides", name := "toldOfText", desc := "(I)I" } : Jvm.MethodName) prog_1_method_43_code (2 : Nat) (Option.some Jvm.ClassFile.FieldType.int)) ∈ TB := tb_of 714 (by decide +kernel) rfl
theorem t_715 : (Jvm.Cond.methodLink "CanoeSides" (125 : Nat) ({ cls := "CanoeSides", name := "toldOfTrip", desc := "(I)I" } : Jvm.MethodName)) ∈ TB := tb_of 715 (by decide +kernel) rfl
theorem t_717 : (Jvm.Cond.instanceMethod ({ cls := "CanoeSides", name := "toldOfTrip", desc := "(I)I" } : Jvm.MethodName)) ∈ TB := tb_of 717 (by decide +kernel) rfl
theorem t_718 : (Jvm.Cond.code ({ cls := "CanoeSides", name := "toldOfTrip", desc := "(I)I" } : Jvm.MethodName) prog_1_method_44_code (2 : Nat) (Option.some Jvm.ClassFile.FieldType.int)) ∈ TB := tb_of 718 (by decide +kernel) rfl
theorem t_719 : (Jvm.Cond.methodLink "CanoeSides" (155 : Nat) ({ cls := "CanoeSides", name := "placeOf", desc := "(I)I" } : Jvm.MethodName)) ∈ TB := tb_of 719 (by decide +kernel) rfl
theorem t_720 : (Jvm.Cond.static ({ cls := "CanoeSides", name := "placeOf", desc := "(I)I" } : Jvm.MethodName)) ∈ TB := tb_of 720 (by decide +kernel) rfl
theorem t_721 : (Jvm.Cond.code ({ cls := "CanoeSides", name := "placeOf", desc := "(I)I" } : Jvm.MethodName) prog_1_method_36_code (1 : Nat) (Option.some Jvm.ClassFile.FieldType.int)) ∈ TB := tb_of 721 (by decide +kernel) rfl
theorem t_722 : (Jvm.Cond.methodLink "CanoeSides" (168 : Nat) ({ cls := "CanoeSides", name := "headingOf", desc := "(I)I" } : Jvm.MethodName)) ∈ TB := tb_of 722 (by decide +kernel) rfl
theorem t_723 : (Jvm.Cond.static ({ cls := "CanoeSides", name := "headingOf", desc := "(I)I" } : Jvm.MethodName)) ∈ TB := tb_of 723 (by decide +kernel) rfl
theorem t_724 : (Jvm.Cond.code ({ cls := "CanoeSides", name := "headingOf", desc := "(I)I" } : Jvm.MethodName) prog_1_method_35_code (1 : Nat) (Option.some Jvm.ClassFile.FieldType.int)) ∈ TB := tb_of 724 (by decide +kernel) rfl
theorem t_725 : (Jvm.Cond.methodLink "CanoeSides" (128 : Nat) ({ cls := "CanoeSides", name := "toldOfCounts", desc := "(I)I" } : Jvm.MethodName)) ∈ TB := tb_of 725 (by decide +kernel) rfl
theorem t_727 : (Jvm.Cond.instanceMethod ({ cls := "CanoeSides", name := "toldOfCounts", desc := "(I)I" } : Jvm.MethodName)) ∈ TB := tb_of 727 (by decide +kernel) rfl
theorem t_728 : (Jvm.Cond.code ({ cls := "CanoeSides", name := "toldOfCounts", desc := "(I)I" } : Jvm.MethodName) prog_1_method_45_code (2 : Nat) (Option.some Jvm.ClassFile.FieldType.int)) ∈ TB := tb_of 728 (by decide +kernel) rfl
theorem t_729 : (Jvm.Cond.methodLink "CanoeSides" (331 : Nat) ({ cls := "CanoeSides$River", name := "isGoal", desc := "(I)Z" } : Jvm.MethodName)) ∈ TB := tb_of 729 (by decide +kernel) rfl
theorem t_730 : (Jvm.Cond.instanceMethod ({ cls := "CanoeSides$River", name := "isGoal", desc := "(I)Z" } : Jvm.MethodName)) ∈ TB := tb_of 730 (by decide +kernel) rfl
theorem t_731 : (Jvm.Cond.selects "CanoeSides$River" ({ cls := "CanoeSides$River", name := "isGoal", desc := "(I)Z" } : Jvm.MethodName) ({ cls := "CanoeSides$River", name := "isGoal", desc := "(I)Z" } : Jvm.MethodName)) ∈ TB := tb_of 731 (by decide +kernel) rfl
theorem t_732 : (Jvm.Cond.code ({ cls := "CanoeSides$River", name := "isGoal", desc := "(I)Z" } : Jvm.MethodName) prog_9_method_6_code (2 : Nat) (Option.some Jvm.ClassFile.FieldType.boolean)) ∈ TB := tb_of 732 (by decide +kernel) rfl
theorem t_737 : (Jvm.Cond.methodLink "CanoeSides" (131 : Nat) ({ cls := "CanoeSides$River", name := "has", desc := "(II)Z" } : Jvm.MethodName)) ∈ TB := tb_of 737 (by decide +kernel) rfl
theorem t_738 : (Jvm.Cond.instanceMethod ({ cls := "CanoeSides$River", name := "has", desc := "(II)Z" } : Jvm.MethodName)) ∈ TB := tb_of 738 (by decide +kernel) rfl
theorem t_739 : (Jvm.Cond.selects "CanoeSides$River" ({ cls := "CanoeSides$River", name := "has", desc := "(II)Z" } : Jvm.MethodName) ({ cls := "CanoeSides$River", name := "has", desc := "(II)Z" } : Jvm.MethodName)) ∈ TB := tb_of 739 (by decide +kernel) rfl
theorem t_740 : (Jvm.Cond.code ({ cls := "CanoeSides$River", name := "has", desc := "(II)Z" } : Jvm.MethodName) prog_9_method_2_code (3 : Nat) (Option.some Jvm.ClassFile.FieldType.boolean)) ∈ TB := tb_of 740 (by decide +kernel) rfl
theorem t_741 : (Jvm.Cond.methodLink "CanoeSides" (135 : Nat) ({ cls := "CanoeSides$River", name := "kindOf", desc := "(I)I" } : Jvm.MethodName)) ∈ TB := tb_of 741 (by decide +kernel) rfl
theorem t_742 : (Jvm.Cond.constant "CanoeSides" (138 : Nat) (-1000000001 : Int32)) ∈ TB := tb_of 742 (by decide +kernel) rfl
theorem t_747 : (Jvm.Cond.methodLink "CanoeSides" (139 : Nat) ({ cls := "CanoeSides$River", name := "habitOf", desc := "(II)I" } : Jvm.MethodName)) ∈ TB := tb_of 747 (by decide +kernel) rfl
theorem t_748 : (Jvm.Cond.instanceMethod ({ cls := "CanoeSides$River", name := "habitOf", desc := "(II)I" } : Jvm.MethodName)) ∈ TB := tb_of 748 (by decide +kernel) rfl
theorem t_749 : (Jvm.Cond.selects "CanoeSides$River" ({ cls := "CanoeSides$River", name := "habitOf", desc := "(II)I" } : Jvm.MethodName) ({ cls := "CanoeSides$River", name := "habitOf", desc := "(II)I" } : Jvm.MethodName)) ∈ TB := tb_of 749 (by decide +kernel) rfl
theorem t_750 : (Jvm.Cond.code ({ cls := "CanoeSides$River", name := "habitOf", desc := "(II)I" } : Jvm.MethodName) prog_9_method_5_code (4 : Nat) (Option.some Jvm.ClassFile.FieldType.int)) ∈ TB := tb_of 750 (by decide +kernel) rfl
theorem t_755 : (Jvm.Cond.methodLink "CanoeSides" (143 : Nat) ({ cls := "CanoeSides", name := "noSquares", desc := "()Z" } : Jvm.MethodName)) ∈ TB := tb_of 755 (by decide +kernel) rfl
theorem t_757 : (Jvm.Cond.instanceMethod ({ cls := "CanoeSides", name := "noSquares", desc := "()Z" } : Jvm.MethodName)) ∈ TB := tb_of 757 (by decide +kernel) rfl
theorem t_758 : (Jvm.Cond.code ({ cls := "CanoeSides", name := "noSquares", desc := "()Z" } : Jvm.MethodName) prog_1_method_39_code (1 : Nat) (Option.some Jvm.ClassFile.FieldType.boolean)) ∈ TB := tb_of 758 (by decide +kernel) rfl
theorem t_759 : (Jvm.Cond.constant "CanoeSides" (147 : Nat) (-1000000003 : Int32)) ∈ TB := tb_of 759 (by decide +kernel) rfl
theorem t_760 : (Jvm.Cond.methodLink "CanoeSides" (148 : Nat) ({ cls := "CanoeSides", name := "paddle", desc := "(I)V" } : Jvm.MethodName)) ∈ TB := tb_of 760 (by decide +kernel) rfl
theorem t_762 : (Jvm.Cond.instanceMethod ({ cls := "CanoeSides", name := "paddle", desc := "(I)V" } : Jvm.MethodName)) ∈ TB := tb_of 762 (by decide +kernel) rfl
theorem t_763 : (Jvm.Cond.code ({ cls := "CanoeSides", name := "paddle", desc := "(I)V" } : Jvm.MethodName) prog_1_method_42_code (3 : Nat) (Option.none : Option Jvm.ClassFile.FieldType)) ∈ TB := tb_of 763 (by decide +kernel) rfl
theorem t_764 : (Jvm.Cond.methodLink "CanoeSides" (158 : Nat) ({ cls := "CanoeSides", name := "moment", desc := "()I" } : Jvm.MethodName)) ∈ TB := tb_of 764 (by decide +kernel) rfl
theorem t_766 : (Jvm.Cond.instanceMethod ({ cls := "CanoeSides", name := "moment", desc := "()I" } : Jvm.MethodName)) ∈ TB := tb_of 766 (by decide +kernel) rfl
theorem t_767 : (Jvm.Cond.code ({ cls := "CanoeSides", name := "moment", desc := "()I" } : Jvm.MethodName) prog_1_method_40_code (1 : Nat) (Option.some Jvm.ClassFile.FieldType.int)) ∈ TB := tb_of 767 (by decide +kernel) rfl
theorem t_768 : (Jvm.Cond.methodLink "CanoeSides" (292 : Nat) ({ cls := "CanoeSides$Waters", name := "timeBehind", desc := "(I)I" } : Jvm.MethodName)) ∈ TB := tb_of 768 (by decide +kernel) rfl
theorem t_769 : (Jvm.Cond.instanceMethod ({ cls := "CanoeSides$Waters", name := "timeBehind", desc := "(I)I" } : Jvm.MethodName)) ∈ TB := tb_of 769 (by decide +kernel) rfl
theorem t_770 : (Jvm.Cond.selects "CanoeSides$Waters" ({ cls := "CanoeSides$Waters", name := "timeBehind", desc := "(I)I" } : Jvm.MethodName) ({ cls := "CanoeSides$Waters", name := "timeBehind", desc := "(I)I" } : Jvm.MethodName)) ∈ TB := tb_of 770 (by decide +kernel) rfl
theorem t_771 : (Jvm.Cond.code ({ cls := "CanoeSides$Waters", name := "timeBehind", desc := "(I)I" } : Jvm.MethodName) prog_11_method_3_code (2 : Nat) (Option.some Jvm.ClassFile.FieldType.int)) ∈ TB := tb_of 771 (by decide +kernel) rfl
theorem t_772 : (Jvm.Cond.methodLink "CanoeSides" (162 : Nat) ({ cls := "CanoeSides$Crew", name := "after", desc := "(II)I" } : Jvm.MethodName)) ∈ TB := tb_of 772 (by decide +kernel) rfl
theorem t_773 : (Jvm.Cond.instanceMethod ({ cls := "CanoeSides$Crew", name := "after", desc := "(II)I" } : Jvm.MethodName)) ∈ TB := tb_of 773 (by decide +kernel) rfl
theorem t_774 : (Jvm.Cond.selects "CanoeSides$Crew" ({ cls := "CanoeSides$Crew", name := "after", desc := "(II)I" } : Jvm.MethodName) ({ cls := "CanoeSides$Crew", name := "after", desc := "(II)I" } : Jvm.MethodName)) ∈ TB := tb_of 774 (by decide +kernel) rfl
theorem t_775 : (Jvm.Cond.code ({ cls := "CanoeSides$Crew", name := "after", desc := "(II)I" } : Jvm.MethodName) prog_4_method_8_code (3 : Nat) (Option.some Jvm.ClassFile.FieldType.int)) ∈ TB := tb_of 775 (by decide +kernel) rfl
theorem t_776 : (Jvm.Cond.methodLink "CanoeSides$Crew" (53 : Nat) ({ cls := "CanoeSides$Crew", name := "turnOf", desc := "(I)I" } : Jvm.MethodName)) ∈ TB := tb_of 776 (by decide +kernel) rfl
theorem t_777 : (Jvm.Cond.instanceMethod ({ cls := "CanoeSides$Crew", name := "turnOf", desc := "(I)I" } : Jvm.MethodName)) ∈ TB := tb_of 777 (by decide +kernel) rfl
theorem t_778 : (Jvm.Cond.selects "CanoeSides$Crew" ({ cls := "CanoeSides$Crew", name := "turnOf", desc := "(I)I" } : Jvm.MethodName) ({ cls := "CanoeSides$Crew", name := "turnOf", desc := "(I)I" } : Jvm.MethodName)) ∈ TB := tb_of 778 (by decide +kernel) rfl
theorem t_779 : (Jvm.Cond.code ({ cls := "CanoeSides$Crew", name := "turnOf", desc := "(I)I" } : Jvm.MethodName) prog_4_method_5_code (2 : Nat) (Option.some Jvm.ClassFile.FieldType.int)) ∈ TB := tb_of 779 (by decide +kernel) rfl
theorem t_780 : (Jvm.Cond.methodLink "CanoeSides$Crew" (56 : Nat) ({ cls := "CanoeSides$Crew", name := "pushOf", desc := "(I)I" } : Jvm.MethodName)) ∈ TB := tb_of 780 (by decide +kernel) rfl
theorem t_781 : (Jvm.Cond.instanceMethod ({ cls := "CanoeSides$Crew", name := "pushOf", desc := "(I)I" } : Jvm.MethodName)) ∈ TB := tb_of 781 (by decide +kernel) rfl
theorem t_782 : (Jvm.Cond.selects "CanoeSides$Crew" ({ cls := "CanoeSides$Crew", name := "pushOf", desc := "(I)I" } : Jvm.MethodName) ({ cls := "CanoeSides$Crew", name := "pushOf", desc := "(I)I" } : Jvm.MethodName)) ∈ TB := tb_of 782 (by decide +kernel) rfl
theorem t_783 : (Jvm.Cond.code ({ cls := "CanoeSides$Crew", name := "pushOf", desc := "(I)I" } : Jvm.MethodName) prog_4_method_6_code (2 : Nat) (Option.some Jvm.ClassFile.FieldType.int)) ∈ TB := tb_of 783 (by decide +kernel) rfl
theorem t_784 : (Jvm.Cond.methodLink "CanoeSides$Crew" (65 : Nat) ({ cls := "CanoeSides$Waters", name := "after", desc := "(III)I" } : Jvm.MethodName)) ∈ TB := tb_of 784 (by decide +kernel) rfl
theorem t_785 : (Jvm.Cond.instanceMethod ({ cls := "CanoeSides$Waters", name := "after", desc := "(III)I" } : Jvm.MethodName)) ∈ TB := tb_of 785 (by decide +kernel) rfl
theorem t_786 : (Jvm.Cond.selects "CanoeSides$Waters" ({ cls := "CanoeSides$Waters", name := "after", desc := "(III)I" } : Jvm.MethodName) ({ cls := "CanoeSides$Waters", name := "after", desc := "(III)I" } : Jvm.MethodName)) ∈ TB := tb_of 786 (by decide +kernel) rfl
theorem t_787 : (Jvm.Cond.code ({ cls := "CanoeSides$Waters", name := "after", desc := "(III)I" } : Jvm.MethodName) prog_11_method_6_code (6 : Nat) (Option.some Jvm.ClassFile.FieldType.int)) ∈ TB := tb_of 787 (by decide +kernel) rfl
theorem t_788 : (Jvm.Cond.methodLink "CanoeSides$Waters" (40 : Nat) ({ cls := "CanoeSides$Waters", name := "calm", desc := "(III)I" } : Jvm.MethodName)) ∈ TB := tb_of 788 (by decide +kernel) rfl
theorem t_789 : (Jvm.Cond.instanceMethod ({ cls := "CanoeSides$Waters", name := "calm", desc := "(III)I" } : Jvm.MethodName)) ∈ TB := tb_of 789 (by decide +kernel) rfl
theorem t_790 : (Jvm.Cond.selects "CanoeSides$Waters" ({ cls := "CanoeSides$Waters", name := "calm", desc := "(III)I" } : Jvm.MethodName) ({ cls := "CanoeSides$Waters", name := "calm", desc := "(III)I" } : Jvm.MethodName)) ∈ TB := tb_of 790 (by decide +kernel) rfl
theorem t_791 : (Jvm.Cond.code ({ cls := "CanoeSides$Waters", name := "calm", desc := "(III)I" } : Jvm.MethodName) prog_11_method_4_code (7 : Nat) (Option.some Jvm.ClassFile.FieldType.int)) ∈ TB := tb_of 791 (by decide +kernel) rfl
theorem t_792 : (Jvm.Cond.methodLink "CanoeSides$Waters" (43 : Nat) ({ cls := "CanoeSides$Waters", name := "gust", desc := "(I)I" } : Jvm.MethodName)) ∈ TB := tb_of 792 (by decide +kernel) rfl
theorem t_793 : (Jvm.Cond.instanceMethod ({ cls := "CanoeSides$Waters", name := "gust", desc := "(I)I" } : Jvm.MethodName)) ∈ TB := tb_of 793 (by decide +kernel) rfl
theorem t_794 : (Jvm.Cond.selects "CanoeSides$Waters" ({ cls := "CanoeSides$Waters", name := "gust", desc := "(I)I" } : Jvm.MethodName) ({ cls := "CanoeSides$Waters", name := "gust", desc := "(I)I" } : Jvm.MethodName)) ∈ TB := tb_of 794 (by decide +kernel) rfl
theorem t_795 : (Jvm.Cond.code ({ cls := "CanoeSides$Waters", name := "gust", desc := "(I)I" } : Jvm.MethodName) prog_11_method_5_code (3 : Nat) (Option.some Jvm.ClassFile.FieldType.int)) ∈ TB := tb_of 795 (by decide +kernel) rfl
theorem t_796 : (Jvm.Cond.methodLink "CanoeSides" (304 : Nat) ({ cls := "CanoeSides$Log", name := "add", desc := "(I)V" } : Jvm.MethodName)) ∈ TB := tb_of 796 (by decide +kernel) rfl
theorem t_797 : (Jvm.Cond.instanceMethod ({ cls := "CanoeSides$Log", name := "add", desc := "(I)V" } : Jvm.MethodName)) ∈ TB := tb_of 797 (by decide +kernel) rfl
theorem t_798 : (Jvm.Cond.selects "CanoeSides$Log" ({ cls := "CanoeSides$Log", name := "add", desc := "(I)V" } : Jvm.MethodName) ({ cls := "CanoeSides$Log", name := "add", desc := "(I)V" } : Jvm.MethodName)) ∈ TB := tb_of 798 (by decide +kernel) rfl
theorem t_799 : (Jvm.Cond.code ({ cls := "CanoeSides$Log", name := "add", desc := "(I)V" } : Jvm.MethodName) prog_7_method_2_code (2 : Nat) (Option.none : Option Jvm.ClassFile.FieldType)) ∈ TB := tb_of 799 (by decide +kernel) rfl
theorem t_800 : (Jvm.Cond.methodLink "CanoeSides$Log" (22 : Nat) ({ cls := "java/lang/Math", name := "min", desc := "(II)I" } : Jvm.MethodName)) ∈ TB := tb_of 800 (by decide +kernel) rfl
theorem t_805 : (Jvm.Cond.methodLink "CanoeSides" (165 : Nat) ({ cls := "CanoeSides", name := "squareOf", desc := "(I)I" } : Jvm.MethodName)) ∈ TB := tb_of 805 (by decide +kernel) rfl
theorem t_806 : (Jvm.Cond.static ({ cls := "CanoeSides", name := "squareOf", desc := "(I)I" } : Jvm.MethodName)) ∈ TB := tb_of 806 (by decide +kernel) rfl
theorem t_807 : (Jvm.Cond.code ({ cls := "CanoeSides", name := "squareOf", desc := "(I)I" } : Jvm.MethodName) prog_1_method_34_code (1 : Nat) (Option.some Jvm.ClassFile.FieldType.int)) ∈ TB := tb_of 807 (by decide +kernel) rfl
theorem t_808 : (Jvm.Cond.methodLink "CanoeSides" (171 : Nat) ({ cls := "CanoeSides$Crew", name := "turnOf", desc := "(I)I" } : Jvm.MethodName)) ∈ TB := tb_of 808 (by decide +kernel) rfl
theorem t_809 : (Jvm.Cond.methodLink "CanoeSides" (174 : Nat) ({ cls := "CanoeSides$Crew", name := "pushOf", desc := "(I)I" } : Jvm.MethodName)) ∈ TB := tb_of 809 (by decide +kernel) rfl
theorem t_814 : (Jvm.Cond.methodLink "CanoeSides" (180 : Nat) ({ cls := "CanoeSides$Log", name := "takeBack", desc := "(I)I" } : Jvm.MethodName)) ∈ TB := tb_of 814 (by decide +kernel) rfl
theorem t_815 : (Jvm.Cond.instanceMethod ({ cls := "CanoeSides$Log", name := "takeBack", desc := "(I)I" } : Jvm.MethodName)) ∈ TB := tb_of 815 (by decide +kernel) rfl
theorem t_816 : (Jvm.Cond.selects "CanoeSides$Log" ({ cls := "CanoeSides$Log", name := "takeBack", desc := "(I)I" } : Jvm.MethodName) ({ cls := "CanoeSides$Log", name := "takeBack", desc := "(I)I" } : Jvm.MethodName)) ∈ TB := tb_of 816 (by decide +kernel) rfl
theorem t_817 : (Jvm.Cond.code ({ cls := "CanoeSides$Log", name := "takeBack", desc := "(I)I" } : Jvm.MethodName) prog_7_method_3_code (2 : Nat) (Option.some Jvm.ClassFile.FieldType.int)) ∈ TB := tb_of 817 (by decide +kernel) rfl
theorem t_818 : (Jvm.Cond.methodLink "CanoeSides$Log" (28 : Nat) ({ cls := "java/lang/Math", name := "floorMod", desc := "(II)I" } : Jvm.MethodName)) ∈ TB := tb_of 818 (by decide +kernel) rfl
theorem t_819 : (Jvm.Cond.static ({ cls := "java/lang/Math", name := "floorMod", desc := "(II)I" } : Jvm.MethodName)) ∈ TB := tb_of 819 (by decide +kernel) rfl
theorem t_820 : (Jvm.Cond.code ({ cls := "java/lang/Math", name := "floorMod", desc := "(II)I" } : Jvm.MethodName) prog_15_method_50_code (3 : Nat) (Option.some Jvm.ClassFile.FieldType.int)) ∈ TB := tb_of 820 (by decide +kernel) rfl
theorem t_829 : (Jvm.Cond.methodLink "CanoeSides" (186 : Nat) ({ cls := "CanoeSides$Boat", name := "draw", desc := "(I)I" } : Jvm.MethodName)) ∈ TB := tb_of 829 (by decide +kernel) rfl
theorem t_830 : (Jvm.Cond.instanceMethod ({ cls := "CanoeSides$Boat", name := "draw", desc := "(I)I" } : Jvm.MethodName)) ∈ TB := tb_of 830 (by decide +kernel) rfl
theorem t_831 : (Jvm.Cond.selects "CanoeSides$Boat" ({ cls := "CanoeSides$Boat", name := "draw", desc := "(I)I" } : Jvm.MethodName) ({ cls := "CanoeSides$Boat", name := "draw", desc := "(I)I" } : Jvm.MethodName)) ∈ TB := tb_of 831 (by decide +kernel) rfl
theorem t_832 : (Jvm.Cond.code ({ cls := "CanoeSides$Boat", name := "draw", desc := "(I)I" } : Jvm.MethodName) prog_2_method_3_code (2 : Nat) (Option.some Jvm.ClassFile.FieldType.int)) ∈ TB := tb_of 832 (by decide +kernel) rfl
theorem t_833 : (Jvm.Cond.constantLong "CanoeSides$Boat" (21 : Nat) (1103515245 : Int64)) ∈ TB := tb_of 833 (by decide +kernel) rfl
theorem t_834 : (Jvm.Cond.constantLong "CanoeSides$Boat" (23 : Nat) (12345 : Int64)) ∈ TB := tb_of 834 (by decide +kernel) rfl
theorem t_835 : (Jvm.Cond.constantLong "CanoeSides$Boat" (25 : Nat) (2147483647 : Int64)) ∈ TB := tb_of 835 (by decide +kernel) rfl
theorem t_836 : (Jvm.Cond.constant "CanoeSides$Boat" (27 : Nat) (65536 : Int32)) ∈ TB := tb_of 836 (by decide +kernel) rfl
theorem t_841 : (Jvm.Cond.methodLink "CanoeSides" (189 : Nat) ({ cls := "CanoeSides$Search", name := "look", desc := "(LCanoeSides$River;LCanoeSides$Crew;II)V" } : Jvm.MethodName)) ∈ TB := tb_of 841 (by decide +kernel) rfl
theorem t_842 : (Jvm.Cond.instanceMethod ({ cls := "CanoeSides$Search", name := "look", desc := "(LCanoeSides$River;LCanoeSides$Crew;II)V" } : Jvm.MethodName)) ∈ TB := tb_of 842 (by decide +kernel) rfl
theorem t_843 : (Jvm.Cond.selects "CanoeSides$Search" ({ cls := "CanoeSides$Search", name := "look", desc := "(LCanoeSides$River;LCanoeSides$Crew;II)V" } : Jvm.MethodName) ({ cls := "CanoeSides$Search", name := "look", desc := "(LCanoeSides$River;LCanoeSides$Crew;II)V" } : Jvm.MethodName)) ∈ TB := tb_of 843 (by decide +kernel) rfl
theorem t_844 : (Jvm.Cond.code ({ cls := "CanoeSides$Search", name := "look", desc := "(LCanoeSides$River;LCanoeSides$Crew;II)V" } : Jvm.MethodName) prog_10_method_3_code (6 : Nat) (Option.none : Option Jvm.ClassFile.FieldType)) ∈ TB := tb_of 844 (by decide +kernel) rfl
theorem t_845 : (Jvm.Cond.methodLink "CanoeSides$Search" (39 : Nat) ({ cls := "CanoeSides$River", name := "isGoal", desc := "(I)Z" } : Jvm.MethodName)) ∈ TB := tb_of 845 (by decide +kernel) rfl
theorem t_846 : (Jvm.Cond.methodLink "CanoeSides$Search" (43 : Nat) ({ cls := "java/util/Arrays", name := "fill", desc := "([II)V" } : Jvm.MethodName)) ∈ TB := tb_of 846 (by decide +kernel) rfl
theorem t_847 : (Jvm.Cond.methodLink "CanoeSides$Search" (49 : Nat) ({ cls := "CanoeSides$Search", name := "reach", desc := "(II)Z" } : Jvm.MethodName)) ∈ TB := tb_of 847 (by decide +kernel) rfl
theorem t_849 : (Jvm.Cond.instanceMethod ({ cls := "CanoeSides$Search", name := "reach", desc := "(II)Z" } : Jvm.MethodName)) ∈ TB := tb_of 849 (by decide +kernel) rfl
theorem t_850 : (Jvm.Cond.code ({ cls := "CanoeSides$Search", name := "reach", desc := "(II)Z" } : Jvm.MethodName) prog_10_method_6_code (3 : Nat) (Option.some Jvm.ClassFile.FieldType.boolean)) ∈ TB := tb_of 850 (by decide +kernel) rfl
theorem t_851 : (Jvm.Cond.methodLink "CanoeSides$Search" (53 : Nat) ({ cls := "CanoeSides$Search", name := "spreadAll", desc := "(LCanoeSides$River;LCanoeSides$Crew;II)V" } : Jvm.MethodName)) ∈ TB := tb_of 851 (by decide +kernel) rfl
theorem t_853 : (Jvm.Cond.instanceMethod ({ cls := "CanoeSides$Search", name := "spreadAll", desc := "(LCanoeSides$River;LCanoeSides$Crew;II)V" } : Jvm.MethodName)) ∈ TB := tb_of 853 (by decide +kernel) rfl
theorem t_854 : (Jvm.Cond.code ({ cls := "CanoeSides$Search", name := "spreadAll", desc := "(LCanoeSides$River;LCanoeSides$Crew;II)V" } : Jvm.MethodName) prog_10_method_4_code (9 : Nat) (Option.none : Option Jvm.ClassFile.FieldType)) ∈ TB := tb_of 854 (by decide +kernel) rfl
theorem t_855 : (Jvm.Cond.methodLink "CanoeSides$Search" (57 : Nat) ({ cls := "CanoeSides$Search", name := "spread", desc := "(LCanoeSides$River;LCanoeSides$Crew;III)V" } : Jvm.MethodName)) ∈ TB := tb_of 855 (by decide +kernel) rfl
theorem t_857 : (Jvm.Cond.instanceMethod ({ cls := "CanoeSides$Search", name := "spread", desc := "(LCanoeSides$River;LCanoeSides$Crew;III)V" } : Jvm.MethodName)) ∈ TB := tb_of 857 (by decide +kernel) rfl
theorem t_858 : (Jvm.Cond.code ({ cls := "CanoeSides$Search", name := "spread", desc := "(LCanoeSides$River;LCanoeSides$Crew;III)V" } : Jvm.MethodName) prog_10_method_5_code (8 : Nat) (Option.none : Option Jvm.ClassFile.FieldType)) ∈ TB := tb_of 858 (by decide +kernel) rfl
theorem t_859 : (Jvm.Cond.methodLink "CanoeSides$Search" (64 : Nat) ({ cls := "CanoeSides$Crew", name := "after", desc := "(II)I" } : Jvm.MethodName)) ∈ TB := tb_of 859 (by decide +kernel) rfl
theorem t_860 : (Jvm.Cond.methodLink "CanoeSides$Search" (70 : Nat) ({ cls := "java/lang/Math", name := "max", desc := "(II)I" } : Jvm.MethodName)) ∈ TB := tb_of 860 (by decide +kernel) rfl
theorem t_861 : (Jvm.Cond.methodLink "CanoeSides$Search" (61 : Nat) ({ cls := "CanoeSides$Search", name := "tellRow", desc := "()V" } : Jvm.MethodName)) ∈ TB := tb_of 861 (by decide +kernel) rfl
theorem t_863 : (Jvm.Cond.instanceMethod ({ cls := "CanoeSides$Search", name := "tellRow", desc := "()V" } : Jvm.MethodName)) ∈ TB := tb_of 863 (by decide +kernel) rfl
theorem t_864 : (Jvm.Cond.code ({ cls := "CanoeSides$Search", name := "tellRow", desc := "()V" } : Jvm.MethodName) prog_10_method_7_code (4 : Nat) (Option.none : Option Jvm.ClassFile.FieldType)) ∈ TB := tb_of 864 (by decide +kernel) rfl
theorem t_865 : (Jvm.Cond.methodLink "CanoeSides" (194 : Nat) ({ cls := "CanoeSides$Search", name := "pairAt", desc := "(I)I" } : Jvm.MethodName)) ∈ TB := tb_of 865 (by decide +kernel) rfl
theorem t_866 : (Jvm.Cond.instanceMethod ({ cls := "CanoeSides$Search", name := "pairAt", desc := "(I)I" } : Jvm.MethodName)) ∈ TB := tb_of 866 (by decide +kernel) rfl
theorem t_867 : (Jvm.Cond.selects "CanoeSides$Search" ({ cls := "CanoeSides$Search", name := "pairAt", desc := "(I)I" } : Jvm.MethodName) ({ cls := "CanoeSides$Search", name := "pairAt", desc := "(I)I" } : Jvm.MethodName)) ∈ TB := tb_of 867 (by decide +kernel) rfl
theorem t_868 : (Jvm.Cond.code ({ cls := "CanoeSides$Search", name := "pairAt", desc := "(I)I" } : Jvm.MethodName) prog_10_method_8_code (2 : Nat) (Option.some Jvm.ClassFile.FieldType.int)) ∈ TB := tb_of 868 (by decide +kernel) rfl
theorem t_873 : (Jvm.Cond.methodLink "CanoeSides" (197 : Nat) ({ cls := "CanoeSides$Calling", name := "look", desc := "(LCanoeSides$River;LCanoeSides$Crew;II)V" } : Jvm.MethodName)) ∈ TB := tb_of 873 (by decide +kernel) rfl
theorem t_874 : (Jvm.Cond.instanceMethod ({ cls := "CanoeSides$Calling", name := "look", desc := "(LCanoeSides$River;LCanoeSides$Crew;II)V" } : Jvm.MethodName)) ∈ TB := tb_of 874 (by decide +kernel) rfl
theorem t_875 : (Jvm.Cond.selects "CanoeSides$Calling" ({ cls := "CanoeSides$Calling", name := "look", desc := "(LCanoeSides$River;LCanoeSides$Crew;II)V" } : Jvm.MethodName) ({ cls := "CanoeSides$Calling", name := "look", desc := "(LCanoeSides$River;LCanoeSides$Crew;II)V" } : Jvm.MethodName)) ∈ TB := tb_of 875 (by decide +kernel) rfl
theorem t_876 : (Jvm.Cond.code ({ cls := "CanoeSides$Calling", name := "look", desc := "(LCanoeSides$River;LCanoeSides$Crew;II)V" } : Jvm.MethodName) prog_3_method_3_code (6 : Nat) (Option.none : Option Jvm.ClassFile.FieldType)) ∈ TB := tb_of 876 (by decide +kernel) rfl
theorem t_877 : (Jvm.Cond.methodLink "CanoeSides$Calling" (45 : Nat) ({ cls := "java/util/Arrays", name := "fill", desc := "([II)V" } : Jvm.MethodName)) ∈ TB := tb_of 877 (by decide +kernel) rfl
theorem t_878 : (Jvm.Cond.methodLink "CanoeSides$Calling" (51 : Nat) ({ cls := "CanoeSides$River", name := "isGoal", desc := "(I)Z" } : Jvm.MethodName)) ∈ TB := tb_of 878 (by decide +kernel) rfl
theorem t_879 : (Jvm.Cond.methodLink "CanoeSides$Calling" (55 : Nat) ({ cls := "CanoeSides$Calling", name := "goOn", desc := "(LCanoeSides$River;LCanoeSides$Crew;III)V" } : Jvm.MethodName)) ∈ TB := tb_of 879 (by decide +kernel) rfl
theorem t_881 : (Jvm.Cond.instanceMethod ({ cls := "CanoeSides$Calling", name := "goOn", desc := "(LCanoeSides$River;LCanoeSides$Crew;III)V" } : Jvm.MethodName)) ∈ TB := tb_of 881 (by decide +kernel) rfl
theorem t_882 : (Jvm.Cond.code ({ cls := "CanoeSides$Calling", name := "goOn", desc := "(LCanoeSides$River;LCanoeSides$Crew;III)V" } : Jvm.MethodName) prog_3_method_7_code (9 : Nat) (Option.none : Option Jvm.ClassFile.FieldType)) ∈ TB := tb_of 882 (by decide +kernel) rfl
theorem t_883 : (Jvm.Cond.methodLink "CanoeSides$Calling" (71 : Nat) ({ cls := "CanoeSides$Crew", name := "after", desc := "(II)I" } : Jvm.MethodName)) ∈ TB := tb_of 883 (by decide +kernel) rfl
theorem t_884 : (Jvm.Cond.methodLink "CanoeSides$Calling" (77 : Nat) ({ cls := "java/lang/Math", name := "min", desc := "(II)I" } : Jvm.MethodName)) ∈ TB := tb_of 884 (by decide +kernel) rfl
theorem t_885 : (Jvm.Cond.methodLink "CanoeSides$Calling" (59 : Nat) ({ cls := "CanoeSides$Calling", name := "callOnAndOn", desc := "(LCanoeSides$River;LCanoeSides$Crew;)V" } : Jvm.MethodName)) ∈ TB := tb_of 885 (by decide +kernel) rfl
theorem t_887 : (Jvm.Cond.instanceMethod ({ cls := "CanoeSides$Calling", name := "callOnAndOn", desc := "(LCanoeSides$River;LCanoeSides$Crew;)V" } : Jvm.MethodName)) ∈ TB := tb_of 887 (by decide +kernel) rfl
theorem t_888 : (Jvm.Cond.code ({ cls := "CanoeSides$Calling", name := "callOnAndOn", desc := "(LCanoeSides$River;LCanoeSides$Crew;)V" } : Jvm.MethodName) prog_3_method_4_code (7 : Nat) (Option.none : Option Jvm.ClassFile.FieldType)) ∈ TB := tb_of 888 (by decide +kernel) rfl
theorem t_889 : (Jvm.Cond.methodLink "CanoeSides$Calling" (63 : Nat) ({ cls := "CanoeSides$Calling", name := "gatherSources", desc := "()I" } : Jvm.MethodName)) ∈ TB := tb_of 889 (by decide +kernel) rfl
theorem t_891 : (Jvm.Cond.instanceMethod ({ cls := "CanoeSides$Calling", name := "gatherSources", desc := "()I" } : Jvm.MethodName)) ∈ TB := tb_of 891 (by decide +kernel) rfl
theorem t_892 : (Jvm.Cond.code ({ cls := "CanoeSides$Calling", name := "gatherSources", desc := "()I" } : Jvm.MethodName) prog_3_method_5_code (3 : Nat) (Option.some Jvm.ClassFile.FieldType.int)) ∈ TB := tb_of 892 (by decide +kernel) rfl
theorem t_893 : (Jvm.Cond.methodLink "CanoeSides$Calling" (67 : Nat) ({ cls := "CanoeSides$Calling", name := "strokesTo", desc := "(I)I" } : Jvm.MethodName)) ∈ TB := tb_of 893 (by decide +kernel) rfl
theorem t_895 : (Jvm.Cond.instanceMethod ({ cls := "CanoeSides$Calling", name := "strokesTo", desc := "(I)I" } : Jvm.MethodName)) ∈ TB := tb_of 895 (by decide +kernel) rfl
theorem t_896 : (Jvm.Cond.code ({ cls := "CanoeSides$Calling", name := "strokesTo", desc := "(I)I" } : Jvm.MethodName) prog_3_method_6_code (2 : Nat) (Option.some Jvm.ClassFile.FieldType.int)) ∈ TB := tb_of 896 (by decide +kernel) rfl
theorem t_901 : (Jvm.Cond.methodLink "CanoeSides" (202 : Nat) ({ cls := "CanoeSides", name := "afterSilently", desc := "(I)I" } : Jvm.MethodName)) ∈ TB := tb_of 901 (by decide +kernel) rfl
theorem t_903 : (Jvm.Cond.instanceMethod ({ cls := "CanoeSides", name := "afterSilently", desc := "(I)I" } : Jvm.MethodName)) ∈ TB := tb_of 903 (by decide +kernel) rfl
theorem t_904 : (Jvm.Cond.code ({ cls := "CanoeSides", name := "afterSilently", desc := "(I)I" } : Jvm.MethodName) prog_1_method_46_code (5 : Nat) (Option.some Jvm.ClassFile.FieldType.int)) ∈ TB := tb_of 904 (by decide +kernel) rfl
theorem t_909 : (Jvm.Cond.methodLink "CanoeSides" (205 : Nat) ({ cls := "CanoeSides", name := "loopFrom", desc := "(I)I" } : Jvm.MethodName)) ∈ TB := tb_of 909 (by decide +kernel) rfl
theorem t_911 : (Jvm.Cond.instanceMethod ({ cls := "CanoeSides", name := "loopFrom", desc := "(I)I" } : Jvm.MethodName)) ∈ TB := tb_of 911 (by decide +kernel) rfl
theorem t_912 : (Jvm.Cond.code ({ cls := "CanoeSides", name := "loopFrom", desc := "(I)I" } : Jvm.MethodName) prog_1_method_47_code (7 : Nat) (Option.some Jvm.ClassFile.FieldType.int)) ∈ TB := tb_of 912 (by decide +kernel) rfl
theorem t_913 : (Jvm.Cond.constant "CanoeSides" (334 : Nat) (1000000 : Int32)) ∈ TB := tb_of 913 (by decide +kernel) rfl
theorem t_914 : (Jvm.Cond.methodLink "CanoeSides" (208 : Nat) ({ cls := "CanoeSides", name := "leadFrom", desc := "(II)I" } : Jvm.MethodName)) ∈ TB := tb_of 914 (by decide +kernel) rfl
theorem t_916 : (Jvm.Cond.instanceMethod ({ cls := "CanoeSides", name := "leadFrom", desc := "(II)I" } : Jvm.MethodName)) ∈ TB := tb_of 916 (by decide +kernel) rfl
theorem t_917 : (Jvm.Cond.code ({ cls := "CanoeSides", name := "leadFrom", desc := "(II)I" } : Jvm.MethodName) prog_1_method_48_code (6 : Nat) (Option.some Jvm.ClassFile.FieldType.int)) ∈ TB := tb_of 917 (by decide +kernel) rfl
theorem t_922 : (Jvm.Cond.methodLink "CanoeSides" (211 : Nat) ({ cls := "CanoeSides", name := "offStraight", desc := "(IIZ)I" } : Jvm.MethodName)) ∈ TB := tb_of 922 (by decide +kernel) rfl
theorem t_924 : (Jvm.Cond.instanceMethod ({ cls := "CanoeSides", name := "offStraight", desc := "(IIZ)I" } : Jvm.MethodName)) ∈ TB := tb_of 924 (by decide +kernel) rfl
theorem t_925 : (Jvm.Cond.code ({ cls := "CanoeSides", name := "offStraight", desc := "(IIZ)I" } : Jvm.MethodName) prog_1_method_49_code (8 : Nat) (Option.some Jvm.ClassFile.FieldType.int)) ∈ TB := tb_of 925 (by decide +kernel) rfl
theorem t_926 : (Jvm.Cond.methodLink "CanoeSides" (335 : Nat) ({ cls := "CanoeSides", name := "eastOf", desc := "(I)I" } : Jvm.MethodName)) ∈ TB := tb_of 926 (by decide +kernel) rfl
theorem t_927 : (Jvm.Cond.methodLink "CanoeSides" (338 : Nat) ({ cls := "CanoeSides", name := "southOf", desc := "(I)I" } : Jvm.MethodName)) ∈ TB := tb_of 927 (by decide +kernel) rfl
theorem t_932 : (Jvm.Cond.methodLink "CanoeSides" (215 : Nat) ({ cls := "java/lang/Math", name := "abs", desc := "(I)I" } : Jvm.MethodName)) ∈ TB := tb_of 932 (by decide +kernel) rfl
theorem t_937 : (Jvm.Cond.methodLink "CanoeSides" (220 : Nat) ({ cls := "CanoeSides", name := "stillRow", desc := "(I)I" } : Jvm.MethodName)) ∈ TB := tb_of 937 (by decide +kernel) rfl
theorem t_939 : (Jvm.Cond.instanceMethod ({ cls := "CanoeSides", name := "stillRow", desc := "(I)I" } : Jvm.MethodName)) ∈ TB := tb_of 939 (by decide +kernel) rfl
theorem t_940 : (Jvm.Cond.code ({ cls := "CanoeSides", name := "stillRow", desc := "(I)I" } : Jvm.MethodName) prog_1_method_50_code (6 : Nat) (Option.some Jvm.ClassFile.FieldType.int)) ∈ TB := tb_of 940 (by decide +kernel) rfl
theorem t_941 : (Jvm.Cond.methodLink "CanoeSides" (223 : Nat) ({ cls := "CanoeSides", name := "pairOfRow", desc := "(III)I" } : Jvm.MethodName)) ∈ TB := tb_of 941 (by decide +kernel) rfl
theorem t_942 : (Jvm.Cond.static ({ cls := "CanoeSides", name := "pairOfRow", desc := "(III)I" } : Jvm.MethodName)) ∈ TB := tb_of 942 (by decide +kernel) rfl
theorem t_943 : (Jvm.Cond.code ({ cls := "CanoeSides", name := "pairOfRow", desc := "(III)I" } : Jvm.MethodName) prog_1_method_51_code (3 : Nat) (Option.some Jvm.ClassFile.FieldType.int)) ∈ TB := tb_of 943 (by decide +kernel) rfl
theorem t_948 : (Jvm.Cond.methodLink "CanoeSides" (227 : Nat) ({ cls := "CanoeSides$Gusts", name := "look", desc := "(LCanoeSides$River;LCanoeSides$Crew;I)V" } : Jvm.MethodName)) ∈ TB := tb_of 948 (by decide +kernel) rfl
theorem t_949 : (Jvm.Cond.instanceMethod ({ cls := "CanoeSides$Gusts", name := "look", desc := "(LCanoeSides$River;LCanoeSides$Crew;I)V" } : Jvm.MethodName)) ∈ TB := tb_of 949 (by decide +kernel) rfl
theorem t_950 : (Jvm.Cond.selects "CanoeSides$Gusts" ({ cls := "CanoeSides$Gusts", name := "look", desc := "(LCanoeSides$River;LCanoeSides$Crew;I)V" } : Jvm.MethodName) ({ cls := "CanoeSides$Gusts", name := "look", desc := "(LCanoeSides$River;LCanoeSides$Crew;I)V" } : Jvm.MethodName)) ∈ TB := tb_of 950 (by decide +kernel) rfl
theorem t_951 : (Jvm.Cond.code ({ cls := "CanoeSides$Gusts", name := "look", desc := "(LCanoeSides$River;LCanoeSides$Crew;I)V" } : Jvm.MethodName) prog_5_method_3_code (6 : Nat) (Option.none : Option Jvm.ClassFile.FieldType)) ∈ TB := tb_of 951 (by decide +kernel) rfl
theorem t_952 : (Jvm.Cond.methodLink "CanoeSides$Gusts" (33 : Nat) ({ cls := "CanoeSides$River", name := "isGoal", desc := "(I)Z" } : Jvm.MethodName)) ∈ TB := tb_of 952 (by decide +kernel) rfl
theorem t_953 : (Jvm.Cond.methodLink "CanoeSides$Gusts" (37 : Nat) ({ cls := "CanoeSides$Gusts", name := "widen", desc := "(LCanoeSides$River;LCanoeSides$Crew;I)Z" } : Jvm.MethodName)) ∈ TB := tb_of 953 (by decide +kernel) rfl
theorem t_955 : (Jvm.Cond.instanceMethod ({ cls := "CanoeSides$Gusts", name := "widen", desc := "(LCanoeSides$River;LCanoeSides$Crew;I)Z" } : Jvm.MethodName)) ∈ TB := tb_of 955 (by decide +kernel) rfl
theorem t_956 : (Jvm.Cond.code ({ cls := "CanoeSides$Gusts", name := "widen", desc := "(LCanoeSides$River;LCanoeSides$Crew;I)Z" } : Jvm.MethodName) prog_5_method_4_code (6 : Nat) (Option.some Jvm.ClassFile.FieldType.boolean)) ∈ TB := tb_of 956 (by decide +kernel) rfl
theorem t_957 : (Jvm.Cond.methodLink "CanoeSides$Gusts" (45 : Nat) ({ cls := "CanoeSides$River", name := "kindOf", desc := "(I)I" } : Jvm.MethodName)) ∈ TB := tb_of 957 (by decide +kernel) rfl
theorem t_958 : (Jvm.Cond.methodLink "CanoeSides$Gusts" (41 : Nat) ({ cls := "CanoeSides$Gusts", name := "surePair", desc := "(LCanoeSides$Crew;II)I" } : Jvm.MethodName)) ∈ TB := tb_of 958 (by decide +kernel) rfl
theorem t_960 : (Jvm.Cond.instanceMethod ({ cls := "CanoeSides$Gusts", name := "surePair", desc := "(LCanoeSides$Crew;II)I" } : Jvm.MethodName)) ∈ TB := tb_of 960 (by decide +kernel) rfl
theorem t_961 : (Jvm.Cond.code ({ cls := "CanoeSides$Gusts", name := "surePair", desc := "(LCanoeSides$Crew;II)I" } : Jvm.MethodName) prog_5_method_5_code (6 : Nat) (Option.some Jvm.ClassFile.FieldType.int)) ∈ TB := tb_of 961 (by decide +kernel) rfl
theorem t_962 : (Jvm.Cond.methodLink "CanoeSides$Gusts" (49 : Nat) ({ cls := "CanoeSides$Crew", name := "calm", desc := "(II)I" } : Jvm.MethodName)) ∈ TB := tb_of 962 (by decide +kernel) rfl
theorem t_963 : (Jvm.Cond.instanceMethod ({ cls := "CanoeSides$Crew", name := "calm", desc := "(II)I" } : Jvm.MethodName)) ∈ TB := tb_of 963 (by decide +kernel) rfl
theorem t_964 : (Jvm.Cond.selects "CanoeSides$Crew" ({ cls := "CanoeSides$Crew", name := "calm", desc := "(II)I" } : Jvm.MethodName) ({ cls := "CanoeSides$Crew", name := "calm", desc := "(II)I" } : Jvm.MethodName)) ∈ TB := tb_of 964 (by decide +kernel) rfl
theorem t_965 : (Jvm.Cond.code ({ cls := "CanoeSides$Crew", name := "calm", desc := "(II)I" } : Jvm.MethodName) prog_4_method_7_code (3 : Nat) (Option.some Jvm.ClassFile.FieldType.int)) ∈ TB := tb_of 965 (by decide +kernel) rfl
theorem t_966 : (Jvm.Cond.methodLink "CanoeSides$Crew" (59 : Nat) ({ cls := "CanoeSides$Waters", name := "calm", desc := "(III)I" } : Jvm.MethodName)) ∈ TB := tb_of 966 (by decide +kernel) rfl
theorem t_967 : (Jvm.Cond.methodLink "CanoeSides$Gusts" (55 : Nat) ({ cls := "CanoeSides$Gusts", name := "worstOf", desc := "(I)I" } : Jvm.MethodName)) ∈ TB := tb_of 967 (by decide +kernel) rfl
theorem t_969 : (Jvm.Cond.instanceMethod ({ cls := "CanoeSides$Gusts", name := "worstOf", desc := "(I)I" } : Jvm.MethodName)) ∈ TB := tb_of 969 (by decide +kernel) rfl
theorem t_970 : (Jvm.Cond.code ({ cls := "CanoeSides$Gusts", name := "worstOf", desc := "(I)I" } : Jvm.MethodName) prog_5_method_6_code (2 : Nat) (Option.some Jvm.ClassFile.FieldType.int)) ∈ TB := tb_of 970 (by decide +kernel) rfl
theorem t_971 : (Jvm.Cond.methodLink "CanoeSides$Gusts" (62 : Nat) ({ cls := "CanoeSides$Waters", name := "gust", desc := "(I)I" } : Jvm.MethodName)) ∈ TB := tb_of 971 (by decide +kernel) rfl
theorem t_984 : (Jvm.Cond.methodLink "CanoeSides" (238 : Nat) ({ cls := "CanoeSides", name := "strokesByRules", desc := "(I)I" } : Jvm.MethodName)) ∈ TB := tb_of 984 (by decide +kernel) rfl
theorem t_986 : (Jvm.Cond.instanceMethod ({ cls := "CanoeSides", name := "strokesByRules", desc := "(I)I" } : Jvm.MethodName)) ∈ TB := tb_of 986 (by decide +kernel) rfl
theorem t_987 : (Jvm.Cond.code ({ cls := "CanoeSides", name := "strokesByRules", desc := "(I)I" } : Jvm.MethodName) prog_1_method_52_code (7 : Nat) (Option.some Jvm.ClassFile.FieldType.int)) ∈ TB := tb_of 987 (by decide +kernel) rfl
theorem t_988 : (Jvm.Cond.methodLink "CanoeSides" (341 : Nat) ({ cls := "CanoeSides", name := "byRule", desc := "(II)I" } : Jvm.MethodName)) ∈ TB := tb_of 988 (by decide +kernel) rfl
theorem t_989 : (Jvm.Cond.static ({ cls := "CanoeSides", name := "byRule", desc := "(II)I" } : Jvm.MethodName)) ∈ TB := tb_of 989 (by decide +kernel) rfl
theorem t_990 : (Jvm.Cond.code ({ cls := "CanoeSides", name := "byRule", desc := "(II)I" } : Jvm.MethodName) prog_1_method_53_code (2 : Nat) (Option.some Jvm.ClassFile.FieldType.int)) ∈ TB := tb_of 990 (by decide +kernel) rfl
theorem t_995 : (Jvm.Cond.methodLink "CanoeSides" (241 : Nat) ({ cls := "CanoeSides$Lines", name := "addMark", desc := "(I)Z" } : Jvm.MethodName)) ∈ TB := tb_of 995 (by decide +kernel) rfl
theorem t_996 : (Jvm.Cond.instanceMethod ({ cls := "CanoeSides$Lines", name := "addMark", desc := "(I)Z" } : Jvm.MethodName)) ∈ TB := tb_of 996 (by decide +kernel) rfl
theorem t_997 : (Jvm.Cond.selects "CanoeSides$Lines" ({ cls := "CanoeSides$Lines", name := "addMark", desc := "(I)Z" } : Jvm.MethodName) ({ cls := "CanoeSides$Lines", name := "addMark", desc := "(I)Z" } : Jvm.MethodName)) ∈ TB := tb_of 997 (by decide +kernel) rfl
theorem t_998 : (Jvm.Cond.code ({ cls := "CanoeSides$Lines", name := "addMark", desc := "(I)Z" } : Jvm.MethodName) prog_6_method_2_code (2 : Nat) (Option.some Jvm.ClassFile.FieldType.boolean)) ∈ TB := tb_of 998 (by decide +kernel) rfl
theorem t_1003 : (Jvm.Cond.methodLink "CanoeSides" (248 : Nat) ({ cls := "CanoeSides$Lines", name := "countWays", desc := "(LCanoeSides$Crew;I)V" } : Jvm.MethodName)) ∈ TB := tb_of 1003 (by decide +kernel) rfl
theorem t_1004 : (Jvm.Cond.instanceMethod ({ cls := "CanoeSides$Lines", name := "countWays", desc := "(LCanoeSides$Crew;I)V" } : Jvm.MethodName)) ∈ TB := tb_of 1004 (by decide +kernel) rfl
theorem t_1005 : (Jvm.Cond.selects "CanoeSides$Lines" ({ cls := "CanoeSides$Lines", name := "countWays", desc := "(LCanoeSides$Crew;I)V" } : Jvm.MethodName) ({ cls := "CanoeSides$Lines", name := "countWays", desc := "(LCanoeSides$Crew;I)V" } : Jvm.MethodName)) ∈ TB := tb_of 1005 (by decide +kernel) rfl
theorem t_1006 : (Jvm.Cond.code ({ cls := "CanoeSides$Lines", name := "countWays", desc := "(LCanoeSides$Crew;I)V" } : Jvm.MethodName) prog_6_method_6_code (9 : Nat) (Option.none : Option Jvm.ClassFile.FieldType)) ∈ TB := tb_of 1006 (by decide +kernel) rfl
theorem t_1007 : (Jvm.Cond.methodLink "CanoeSides$Lines" (41 : Nat) ({ cls := "java/lang/Math", name := "min", desc := "(II)I" } : Jvm.MethodName)) ∈ TB := tb_of 1007 (by decide +kernel) rfl
theorem t_1008 : (Jvm.Cond.methodLink "CanoeSides$Lines" (46 : Nat) ({ cls := "java/lang/Math", name := "max", desc := "(II)I" } : Jvm.MethodName)) ∈ TB := tb_of 1008 (by decide +kernel) rfl
theorem t_1009 : (Jvm.Cond.methodLink "CanoeSides$Lines" (49 : Nat) ({ cls := "CanoeSides$Lines", name := "momentBehind", desc := "(IILCanoeSides$Crew;I)I" } : Jvm.MethodName)) ∈ TB := tb_of 1009 (by decide +kernel) rfl
theorem t_1011 : (Jvm.Cond.instanceMethod ({ cls := "CanoeSides$Lines", name := "momentBehind", desc := "(IILCanoeSides$Crew;I)I" } : Jvm.MethodName)) ∈ TB := tb_of 1011 (by decide +kernel) rfl
theorem t_1012 : (Jvm.Cond.code ({ cls := "CanoeSides$Lines", name := "momentBehind", desc := "(IILCanoeSides$Crew;I)I" } : Jvm.MethodName) prog_6_method_7_code (7 : Nat) (Option.some Jvm.ClassFile.FieldType.int)) ∈ TB := tb_of 1012 (by decide +kernel) rfl
theorem t_1013 : (Jvm.Cond.methodLinkNest "CanoeSides$Lines" (37 : Nat) ({ cls := "CanoeSides", name := "squareOf", desc := "(I)I" } : Jvm.MethodName) "CanoeSides") ∈ NB := nb_of 1013 (by decide +kernel) rfl
theorem t_1014 : (Jvm.Cond.methodLink "CanoeSides$Lines" (60 : Nat) ({ cls := "CanoeSides$Waters", name := "timeBehind", desc := "(I)I" } : Jvm.MethodName)) ∈ TB := tb_of 1014 (by decide +kernel) rfl
theorem t_1015 : (Jvm.Cond.methodLink "CanoeSides$Lines" (31 : Nat) ({ cls := "CanoeSides$Crew", name := "after", desc := "(II)I" } : Jvm.MethodName)) ∈ TB := tb_of 1015 (by decide +kernel) rfl
theorem t_1016 : (Jvm.Cond.methodLink "CanoeSides$Lines" (53 : Nat) ({ cls := "CanoeSides$Lines", name := "waysBehind", desc := "(II)I" } : Jvm.MethodName)) ∈ TB := tb_of 1016 (by decide +kernel) rfl
theorem t_1018 : (Jvm.Cond.instanceMethod ({ cls := "CanoeSides$Lines", name := "waysBehind", desc := "(II)I" } : Jvm.MethodName)) ∈ TB := tb_of 1018 (by decide +kernel) rfl
theorem t_1019 : (Jvm.Cond.code ({ cls := "CanoeSides$Lines", name := "waysBehind", desc := "(II)I" } : Jvm.MethodName) prog_6_method_9_code (4 : Nat) (Option.some Jvm.ClassFile.FieldType.int)) ∈ TB := tb_of 1019 (by decide +kernel) rfl
theorem t_1020 : (Jvm.Cond.methodLink "CanoeSides$Lines" (68 : Nat) ({ cls := "CanoeSides$Lines", name := "waysFrom", desc := "(II)I" } : Jvm.MethodName)) ∈ TB := tb_of 1020 (by decide +kernel) rfl
theorem t_1021 : (Jvm.Cond.instanceMethod ({ cls := "CanoeSides$Lines", name := "waysFrom", desc := "(II)I" } : Jvm.MethodName)) ∈ TB := tb_of 1021 (by decide +kernel) rfl
theorem t_1022 : (Jvm.Cond.selects "CanoeSides$Lines" ({ cls := "CanoeSides$Lines", name := "waysFrom", desc := "(II)I" } : Jvm.MethodName) ({ cls := "CanoeSides$Lines", name := "waysFrom", desc := "(II)I" } : Jvm.MethodName)) ∈ TB := tb_of 1022 (by decide +kernel) rfl
theorem t_1023 : (Jvm.Cond.code ({ cls := "CanoeSides$Lines", name := "waysFrom", desc := "(II)I" } : Jvm.MethodName) prog_6_method_8_code (4 : Nat) (Option.some Jvm.ClassFile.FieldType.int)) ∈ TB := tb_of 1023 (by decide +kernel) rfl
theorem t_1024 : (Jvm.Cond.methodLinkNest "CanoeSides$Lines" (65 : Nat) ({ cls := "CanoeSides", name := "headingOf", desc := "(I)I" } : Jvm.MethodName) "CanoeSides") ∈ NB := nb_of 1024 (by decide +kernel) rfl
theorem t_1025 : (Jvm.Cond.methodLink "CanoeSides" (252 : Nat) ({ cls := "CanoeSides$Lines", name := "waysFrom", desc := "(II)I" } : Jvm.MethodName)) ∈ TB := tb_of 1025 (by decide +kernel) rfl
theorem t_1026 : (Jvm.Cond.methodLink "CanoeSides" (255 : Nat) ({ cls := "CanoeSides$Lines", name := "firstPairAt", desc := "(ILCanoeSides$Crew;I)I" } : Jvm.MethodName)) ∈ TB := tb_of 1026 (by decide +kernel) rfl
theorem t_1027 : (Jvm.Cond.instanceMethod ({ cls := "CanoeSides$Lines", name := "firstPairAt", desc := "(ILCanoeSides$Crew;I)I" } : Jvm.MethodName)) ∈ TB := tb_of 1027 (by decide +kernel) rfl
theorem t_1028 : (Jvm.Cond.selects "CanoeSides$Lines" ({ cls := "CanoeSides$Lines", name := "firstPairAt", desc := "(ILCanoeSides$Crew;I)I" } : Jvm.MethodName) ({ cls := "CanoeSides$Lines", name := "firstPairAt", desc := "(ILCanoeSides$Crew;I)I" } : Jvm.MethodName)) ∈ TB := tb_of 1028 (by decide +kernel) rfl
theorem t_1029 : (Jvm.Cond.code ({ cls := "CanoeSides$Lines", name := "firstPairAt", desc := "(ILCanoeSides$Crew;I)I" } : Jvm.MethodName) prog_6_method_10_code (6 : Nat) (Option.some Jvm.ClassFile.FieldType.int)) ∈ TB := tb_of 1029 (by decide +kernel) rfl
theorem t_1030 : (Jvm.Cond.methodLink "CanoeSides$Lines" (71 : Nat) ({ cls := "CanoeSides$Lines", name := "firstPair", desc := "(ILCanoeSides$Crew;I)I" } : Jvm.MethodName)) ∈ TB := tb_of 1030 (by decide +kernel) rfl
theorem t_1032 : (Jvm.Cond.instanceMethod ({ cls := "CanoeSides$Lines", name := "firstPair", desc := "(ILCanoeSides$Crew;I)I" } : Jvm.MethodName)) ∈ TB := tb_of 1032 (by decide +kernel) rfl
theorem t_1033 : (Jvm.Cond.code ({ cls := "CanoeSides$Lines", name := "firstPair", desc := "(ILCanoeSides$Crew;I)I" } : Jvm.MethodName) prog_6_method_11_code (5 : Nat) (Option.some Jvm.ClassFile.FieldType.int)) ∈ TB := tb_of 1033 (by decide +kernel) rfl
theorem t_1038 : (Jvm.Cond.methodLink "CanoeSides" (259 : Nat) ({ cls := "CanoeSides$Lines", name := "heldAlways", desc := "(ILCanoeSides$Crew;I)I" } : Jvm.MethodName)) ∈ TB := tb_of 1038 (by decide +kernel) rfl
theorem t_1039 : (Jvm.Cond.instanceMethod ({ cls := "CanoeSides$Lines", name := "heldAlways", desc := "(ILCanoeSides$Crew;I)I" } : Jvm.MethodName)) ∈ TB := tb_of 1039 (by decide +kernel) rfl
theorem t_1040 : (Jvm.Cond.selects "CanoeSides$Lines" ({ cls := "CanoeSides$Lines", name := "heldAlways", desc := "(ILCanoeSides$Crew;I)I" } : Jvm.MethodName) ({ cls := "CanoeSides$Lines", name := "heldAlways", desc := "(ILCanoeSides$Crew;I)I" } : Jvm.MethodName)) ∈ TB := tb_of 1040 (by decide +kernel) rfl
theorem t_1041 : (Jvm.Cond.code ({ cls := "CanoeSides$Lines", name := "heldAlways", desc := "(ILCanoeSides$Crew;I)I" } : Jvm.MethodName) prog_6_method_12_code (11 : Nat) (Option.some Jvm.ClassFile.FieldType.int)) ∈ TB := tb_of 1041 (by decide +kernel) rfl
theorem t_1046 : (Jvm.Cond.methodLink "CanoeSides" (262 : Nat) ({ cls := "CanoeSides$Lines", name := "addEntry", desc := "(II)Z" } : Jvm.MethodName)) ∈ TB := tb_of 1046 (by decide +kernel) rfl
theorem t_1047 : (Jvm.Cond.instanceMethod ({ cls := "CanoeSides$Lines", name := "addEntry", desc := "(II)Z" } : Jvm.MethodName)) ∈ TB := tb_of 1047 (by decide +kernel) rfl
theorem t_1048 : (Jvm.Cond.selects "CanoeSides$Lines" ({ cls := "CanoeSides$Lines", name := "addEntry", desc := "(II)Z" } : Jvm.MethodName) ({ cls := "CanoeSides$Lines", name := "addEntry", desc := "(II)Z" } : Jvm.MethodName)) ∈ TB := tb_of 1048 (by decide +kernel) rfl
theorem t_1049 : (Jvm.Cond.code ({ cls := "CanoeSides$Lines", name := "addEntry", desc := "(II)Z" } : Jvm.MethodName) prog_6_method_3_code (3 : Nat) (Option.some Jvm.ClassFile.FieldType.boolean)) ∈ TB := tb_of 1049 (by decide +kernel) rfl
theorem t_1054 : (Jvm.Cond.methodLink "CanoeSides" (268 : Nat) ({ cls := "CanoeSides$Lines", name := "firstWrong", desc := "(LCanoeSides$Crew;I)I" } : Jvm.MethodName)) ∈ TB := tb_of 1054 (by decide +kernel) rfl
theorem t_1055 : (Jvm.Cond.instanceMethod ({ cls := "CanoeSides$Lines", name := "firstWrong", desc := "(LCanoeSides$Crew;I)I" } : Jvm.MethodName)) ∈ TB := tb_of 1055 (by decide +kernel) rfl
theorem t_1056 : (Jvm.Cond.selects "CanoeSides$Lines" ({ cls := "CanoeSides$Lines", name := "firstWrong", desc := "(LCanoeSides$Crew;I)I" } : Jvm.MethodName) ({ cls := "CanoeSides$Lines", name := "firstWrong", desc := "(LCanoeSides$Crew;I)I" } : Jvm.MethodName)) ∈ TB := tb_of 1056 (by decide +kernel) rfl
theorem t_1057 : (Jvm.Cond.code ({ cls := "CanoeSides$Lines", name := "firstWrong", desc := "(LCanoeSides$Crew;I)I" } : Jvm.MethodName) prog_6_method_5_code (5 : Nat) (Option.some Jvm.ClassFile.FieldType.int)) ∈ TB := tb_of 1057 (by decide +kernel) rfl
theorem t_1066 : (Jvm.Cond.constant "CanoeSides" (275 : Nat) (2147483647 : Int32)) ∈ TB := tb_of 1066 (by decide +kernel) rfl
theorem t_1086 : (Jvm.Cond.methodLink "CanoeSidesModel" (61 : Nat) ({ cls := "CanoeSidesModel", name := "tellNothing", desc := "(I)V" } : Jvm.MethodName)) ∈ TB := tb_of 1086 (by decide +kernel) rfl
theorem t_1088 : (Jvm.Cond.instanceMethod ({ cls := "CanoeSidesModel", name := "tellNothing", desc := "(I)V" } : Jvm.MethodName)) ∈ TB := tb_of 1088 (by decide +kernel) rfl
theorem t_1089 : (Jvm.Cond.code ({ cls := "CanoeSidesModel", name := "tellNothing", desc := "(I)V" } : Jvm.MethodName) prog_13_method_6_code (3 : Nat) (Option.none : Option Jvm.ClassFile.FieldType)) ∈ TB := tb_of 1089 (by decide +kernel) rfl
theorem t_1090 : (Jvm.Cond.fieldLink "CanoeSidesModel" (7 : Nat) "CanoeSidesModel" "w" "[I") ∈ TB := tb_of 1090 (by decide +kernel) rfl
theorem t_1091 : (Jvm.Cond.fieldLink "CanoeSidesModel" (13 : Nat) "CanoeSidesModel" "isKept" "[Z") ∈ TB := tb_of 1091 (by decide +kernel) rfl
theorem t_1092 : (Jvm.Cond.fieldLink "CanoeSidesModel" (17 : Nat) "CanoeSidesModel" "square" "[I") ∈ TB := tb_of 1092 (by decide +kernel) rfl
theorem t_1093 : (Jvm.Cond.fieldLink "CanoeSidesModel" (20 : Nat) "CanoeSidesModel" "told" "[I") ∈ TB := tb_of 1093 (by decide +kernel) rfl
theorem t_1094 : (Jvm.Cond.fieldLink "CanoeSidesModel" (23 : Nat) "CanoeSidesModel" "habit" "[I") ∈ TB := tb_of 1094 (by decide +kernel) rfl
theorem t_1095 : (Jvm.Cond.fieldLink "CanoeSidesModel" (112 : Nat) "CanoeSidesModel" "clauses" "I") ∈ TB := tb_of 1095 (by decide +kernel) rfl
theorem t_1096 : (Jvm.Cond.fieldLink "CanoeSidesModel" (26 : Nat) "CanoeSidesModel" "text" "[I") ∈ TB := tb_of 1096 (by decide +kernel) rfl
theorem t_1097 : (Jvm.Cond.fieldLink "CanoeSidesModel" (72 : Nat) "CanoeSidesModel" "textSize" "I") ∈ TB := tb_of 1097 (by decide +kernel) rfl
theorem t_1098 : (Jvm.Cond.fieldLink "CanoeSidesModel" (76 : Nat) "CanoeSidesModel" "at" "I") ∈ TB := tb_of 1098 (by decide +kernel) rfl
theorem t_1099 : (Jvm.Cond.fieldLink "CanoeSidesModel" (86 : Nat) "CanoeSidesModel" "first" "I") ∈ TB := tb_of 1099 (by decide +kernel) rfl
theorem t_1100 : (Jvm.Cond.fieldLink "CanoeSidesModel" (79 : Nat) "CanoeSidesModel" "faultOf" "I") ∈ TB := tb_of 1100 (by decide +kernel) rfl
theorem t_1101 : (Jvm.Cond.fieldLink "CanoeSidesModel" (29 : Nat) "CanoeSidesModel" "fault" "I") ∈ TB := tb_of 1101 (by decide +kernel) rfl
theorem t_1102 : (Jvm.Cond.fieldLink "CanoeSidesModel" (166 : Nat) "CanoeSidesModel" "more" "I") ∈ TB := tb_of 1102 (by decide +kernel) rfl
theorem t_1103 : (Jvm.Cond.fieldLink "CanoeSidesModel" (195 : Nat) "CanoeSidesModel" "nextSquare" "I") ∈ TB := tb_of 1103 (by decide +kernel) rfl
theorem t_1104 : (Jvm.Cond.fieldLink "CanoeSidesModel" (189 : Nat) "CanoeSidesModel" "nextHeading" "I") ∈ TB := tb_of 1104 (by decide +kernel) rfl
theorem t_1105 : (Jvm.Cond.fieldLink "CanoeSidesModel" (33 : Nat) "CanoeSidesModel" "backs" "[I") ∈ TB := tb_of 1105 (by decide +kernel) rfl
theorem t_1106 : (Jvm.Cond.fieldLink "CanoeSidesModel" (140 : Nat) "CanoeSidesModel" "backMany" "I") ∈ TB := tb_of 1106 (by decide +kernel) rfl
theorem t_1107 : (Jvm.Cond.fieldLink "CanoeSidesModel" (36 : Nat) "CanoeSidesModel" "far" "[I") ∈ TB := tb_of 1107 (by decide +kernel) rfl
theorem t_1108 : (Jvm.Cond.fieldLink "CanoeSidesModel" (241 : Nat) "CanoeSidesModel" "lastOfFront" "I") ∈ TB := tb_of 1108 (by decide +kernel) rfl
theorem t_1109 : (Jvm.Cond.fieldLink "CanoeSidesModel" (244 : Nat) "CanoeSidesModel" "firstOfBehind" "I") ∈ TB := tb_of 1109 (by decide +kernel) rfl
theorem t_1110 : (Jvm.Cond.fieldLink "CanoeSidesModel" (40 : Nat) "CanoeSidesModel" "called" "[I") ∈ TB := tb_of 1110 (by decide +kernel) rfl
theorem t_1111 : (Jvm.Cond.fieldLink "CanoeSidesModel" (43 : Nat) "CanoeSidesModel" "calledThen" "[I") ∈ TB := tb_of 1111 (by decide +kernel) rfl
theorem t_1112 : (Jvm.Cond.fieldLink "CanoeSidesModel" (283 : Nat) "CanoeSidesModel" "offEast" "I") ∈ TB := tb_of 1112 (by decide +kernel) rfl
theorem t_1113 : (Jvm.Cond.fieldLink "CanoeSidesModel" (286 : Nat) "CanoeSidesModel" "offNorth" "I") ∈ TB := tb_of 1113 (by decide +kernel) rfl
theorem t_1114 : (Jvm.Cond.fieldLink "CanoeSidesModel" (46 : Nat) "CanoeSidesModel" "sure" "[I") ∈ TB := tb_of 1114 (by decide +kernel) rfl
theorem t_1115 : (Jvm.Cond.fieldLink "CanoeSidesModel" (49 : Nat) "CanoeSidesModel" "line" "[I") ∈ TB := tb_of 1115 (by decide +kernel) rfl
theorem t_1116 : (Jvm.Cond.fieldLink "CanoeSidesModel" (134 : Nat) "CanoeSidesModel" "lineMany" "I") ∈ TB := tb_of 1116 (by decide +kernel) rfl
theorem t_1117 : (Jvm.Cond.fieldLink "CanoeSidesModel" (311 : Nat) "CanoeSidesModel" "fitMany" "I") ∈ TB := tb_of 1117 (by decide +kernel) rfl
theorem t_1118 : (Jvm.Cond.fieldLink "CanoeSidesModel" (317 : Nat) "CanoeSidesModel" "fitFirst" "I") ∈ TB := tb_of 1118 (by decide +kernel) rfl
theorem t_1119 : (Jvm.Cond.fieldLink "CanoeSidesModel" (52 : Nat) "CanoeSidesModel" "heldBy" "[I") ∈ TB := tb_of 1119 (by decide +kernel) rfl
theorem t_1120 : (Jvm.Cond.fieldLink "CanoeSidesModel" (55 : Nat) "CanoeSidesModel" "bookPair" "[I") ∈ TB := tb_of 1120 (by decide +kernel) rfl
theorem t_1121 : (Jvm.Cond.fieldLink "CanoeSidesModel" (58 : Nat) "CanoeSidesModel" "bookSquare" "[I") ∈ TB := tb_of 1121 (by decide +kernel) rfl
theorem t_1122 : (Jvm.Cond.fieldLink "CanoeSidesModel" (137 : Nat) "CanoeSidesModel" "written" "I") ∈ TB := tb_of 1122 (by decide +kernel) rfl
theorem t_1123 : (Jvm.Cond.laysFinal "CanoeSidesModel" "CanoeSidesModel" "w" "[I") ∈ TB := tb_of 1123 (by decide +kernel) rfl
theorem t_1125 : (Jvm.Cond.laysFinal "CanoeSidesModel" "CanoeSidesModel" "isKept" "[Z") ∈ TB := tb_of 1125 (by decide +kernel) rfl
theorem t_1127 : (Jvm.Cond.laysFinal "CanoeSidesModel" "CanoeSidesModel" "square" "[I") ∈ TB := tb_of 1127 (by decide +kernel) rfl
theorem t_1129 : (Jvm.Cond.laysFinal "CanoeSidesModel" "CanoeSidesModel" "told" "[I") ∈ TB := tb_of 1129 (by decide +kernel) rfl
theorem t_1131 : (Jvm.Cond.laysFinal "CanoeSidesModel" "CanoeSidesModel" "habit" "[I") ∈ TB := tb_of 1131 (by decide +kernel) rfl
theorem t_1133 : (Jvm.Cond.lays "CanoeSidesModel" "CanoeSidesModel" "clauses" "I") ∈ TB := tb_of 1133 (by decide +kernel) rfl
theorem t_1135 : (Jvm.Cond.laysFinal "CanoeSidesModel" "CanoeSidesModel" "text" "[I") ∈ TB := tb_of 1135 (by decide +kernel) rfl
theorem t_1137 : (Jvm.Cond.lays "CanoeSidesModel" "CanoeSidesModel" "textSize" "I") ∈ TB := tb_of 1137 (by decide +kernel) rfl
theorem t_1139 : (Jvm.Cond.lays "CanoeSidesModel" "CanoeSidesModel" "at" "I") ∈ TB := tb_of 1139 (by decide +kernel) rfl
theorem t_1141 : (Jvm.Cond.lays "CanoeSidesModel" "CanoeSidesModel" "first" "I") ∈ TB := tb_of 1141 (by decide +kernel) rfl
theorem t_1143 : (Jvm.Cond.lays "CanoeSidesModel" "CanoeSidesModel" "faultOf" "I") ∈ TB := tb_of 1143 (by decide +kernel) rfl
theorem t_1145 : (Jvm.Cond.lays "CanoeSidesModel" "CanoeSidesModel" "fault" "I") ∈ TB := tb_of 1145 (by decide +kernel) rfl
theorem t_1147 : (Jvm.Cond.lays "CanoeSidesModel" "CanoeSidesModel" "more" "I") ∈ TB := tb_of 1147 (by decide +kernel) rfl
theorem t_1149 : (Jvm.Cond.lays "CanoeSidesModel" "CanoeSidesModel" "nextSquare" "I") ∈ TB := tb_of 1149 (by decide +kernel) rfl
theorem t_1151 : (Jvm.Cond.lays "CanoeSidesModel" "CanoeSidesModel" "nextHeading" "I") ∈ TB := tb_of 1151 (by decide +kernel) rfl
theorem t_1153 : (Jvm.Cond.laysFinal "CanoeSidesModel" "CanoeSidesModel" "backs" "[I") ∈ TB := tb_of 1153 (by decide +kernel) rfl
theorem t_1155 : (Jvm.Cond.lays "CanoeSidesModel" "CanoeSidesModel" "backMany" "I") ∈ TB := tb_of 1155 (by decide +kernel) rfl
theorem t_1157 : (Jvm.Cond.laysFinal "CanoeSidesModel" "CanoeSidesModel" "far" "[I") ∈ TB := tb_of 1157 (by decide +kernel) rfl
theorem t_1159 : (Jvm.Cond.lays "CanoeSidesModel" "CanoeSidesModel" "lastOfFront" "I") ∈ TB := tb_of 1159 (by decide +kernel) rfl
theorem t_1161 : (Jvm.Cond.lays "CanoeSidesModel" "CanoeSidesModel" "firstOfBehind" "I") ∈ TB := tb_of 1161 (by decide +kernel) rfl
theorem t_1163 : (Jvm.Cond.laysFinal "CanoeSidesModel" "CanoeSidesModel" "called" "[I") ∈ TB := tb_of 1163 (by decide +kernel) rfl
theorem t_1165 : (Jvm.Cond.laysFinal "CanoeSidesModel" "CanoeSidesModel" "calledThen" "[I") ∈ TB := tb_of 1165 (by decide +kernel) rfl
theorem t_1167 : (Jvm.Cond.lays "CanoeSidesModel" "CanoeSidesModel" "offEast" "I") ∈ TB := tb_of 1167 (by decide +kernel) rfl
theorem t_1169 : (Jvm.Cond.lays "CanoeSidesModel" "CanoeSidesModel" "offNorth" "I") ∈ TB := tb_of 1169 (by decide +kernel) rfl
theorem t_1171 : (Jvm.Cond.laysFinal "CanoeSidesModel" "CanoeSidesModel" "sure" "[I") ∈ TB := tb_of 1171 (by decide +kernel) rfl
theorem t_1173 : (Jvm.Cond.laysFinal "CanoeSidesModel" "CanoeSidesModel" "line" "[I") ∈ TB := tb_of 1173 (by decide +kernel) rfl
theorem t_1175 : (Jvm.Cond.lays "CanoeSidesModel" "CanoeSidesModel" "lineMany" "I") ∈ TB := tb_of 1175 (by decide +kernel) rfl
theorem t_1177 : (Jvm.Cond.lays "CanoeSidesModel" "CanoeSidesModel" "fitMany" "I") ∈ TB := tb_of 1177 (by decide +kernel) rfl
theorem t_1179 : (Jvm.Cond.lays "CanoeSidesModel" "CanoeSidesModel" "fitFirst" "I") ∈ TB := tb_of 1179 (by decide +kernel) rfl
theorem t_1181 : (Jvm.Cond.laysFinal "CanoeSidesModel" "CanoeSidesModel" "heldBy" "[I") ∈ TB := tb_of 1181 (by decide +kernel) rfl
theorem t_1183 : (Jvm.Cond.laysFinal "CanoeSidesModel" "CanoeSidesModel" "bookPair" "[I") ∈ TB := tb_of 1183 (by decide +kernel) rfl
theorem t_1185 : (Jvm.Cond.laysFinal "CanoeSidesModel" "CanoeSidesModel" "bookSquare" "[I") ∈ TB := tb_of 1185 (by decide +kernel) rfl
theorem t_1187 : (Jvm.Cond.lays "CanoeSidesModel" "CanoeSidesModel" "written" "I") ∈ TB := tb_of 1187 (by decide +kernel) rfl
theorem t_1195 : (Jvm.Cond.constantLong "CanoeSidesModel" (65 : Nat) (255 : Int64)) ∈ TB := tb_of 1195 (by decide +kernel) rfl
theorem t_1196 : (Jvm.Cond.methodLink "CanoeSidesModel" (67 : Nat) ({ cls := "CanoeSidesModel", name := "in", desc := "(JJJ)Z" } : Jvm.MethodName)) ∈ TB := tb_of 1196 (by decide +kernel) rfl
theorem t_1197 : (Jvm.Cond.static ({ cls := "CanoeSidesModel", name := "in", desc := "(JJJ)Z" } : Jvm.MethodName)) ∈ TB := tb_of 1197 (by decide +kernel) rfl
theorem t_1198 : (Jvm.Cond.code ({ cls := "CanoeSidesModel", name := "in", desc := "(JJJ)Z" } : Jvm.MethodName) prog_13_method_3_code (6 : Nat) (Option.some Jvm.ClassFile.FieldType.boolean)) ∈ TB := tb_of 1198 (by decide +kernel) rfl
theorem t_1199 : (Jvm.Cond.constant "CanoeSidesModel" (71 : Nat) (-1000000002 : Int32)) ∈ TB := tb_of 1199 (by decide +kernel) rfl
theorem t_1200 : (Jvm.Cond.constant "CanoeSidesModel" (75 : Nat) (-1000000004 : Int32)) ∈ TB := tb_of 1200 (by decide +kernel) rfl
theorem t_1205 : (Jvm.Cond.methodLink "CanoeSidesModel" (82 : Nat) ({ cls := "CanoeSidesModel", name := "here", desc := "()I" } : Jvm.MethodName)) ∈ TB := tb_of 1205 (by decide +kernel) rfl
theorem t_1207 : (Jvm.Cond.instanceMethod ({ cls := "CanoeSidesModel", name := "here", desc := "()I" } : Jvm.MethodName)) ∈ TB := tb_of 1207 (by decide +kernel) rfl
theorem t_1208 : (Jvm.Cond.code ({ cls := "CanoeSidesModel", name := "here", desc := "()I" } : Jvm.MethodName) prog_13_method_8_code (1 : Nat) (Option.some Jvm.ClassFile.FieldType.int)) ∈ TB := tb_of 1208 (by decide +kernel) rfl
theorem t_1209 : (Jvm.Cond.methodLink "CanoeSidesModel" (128 : Nat) ({ cls := "CanoeSidesModel", name := "takeClause", desc := "()V" } : Jvm.MethodName)) ∈ TB := tb_of 1209 (by decide +kernel) rfl
theorem t_1211 : (Jvm.Cond.instanceMethod ({ cls := "CanoeSidesModel", name := "takeClause", desc := "()V" } : Jvm.MethodName)) ∈ TB := tb_of 1211 (by decide +kernel) rfl
theorem t_1212 : (Jvm.Cond.code ({ cls := "CanoeSidesModel", name := "takeClause", desc := "()V" } : Jvm.MethodName) prog_13_method_17_code (3 : Nat) (Option.none : Option Jvm.ClassFile.FieldType)) ∈ TB := tb_of 1212 (by decide +kernel) rfl
theorem t_1213 : (Jvm.Cond.methodLink "CanoeSidesModel" (109 : Nat) ({ cls := "CanoeSidesModel", name := "wordOf", desc := "(I)I" } : Jvm.MethodName)) ∈ TB := tb_of 1213 (by decide +kernel) rfl
theorem t_1214 : (Jvm.Cond.static ({ cls := "CanoeSidesModel", name := "wordOf", desc := "(I)I" } : Jvm.MethodName)) ∈ TB := tb_of 1214 (by decide +kernel) rfl
theorem t_1215 : (Jvm.Cond.code ({ cls := "CanoeSidesModel", name := "wordOf", desc := "(I)I" } : Jvm.MethodName) prog_13_method_16_code (1 : Nat) (Option.some Jvm.ClassFile.FieldType.int)) ∈ TB := tb_of 1215 (by decide +kernel) rfl
theorem t_1216 : (Jvm.Cond.methodLink "CanoeSidesModel" (93 : Nat) ({ cls := "CanoeSidesModel", name := "want", desc := "(ZII)Z" } : Jvm.MethodName)) ∈ TB := tb_of 1216 (by decide +kernel) rfl
theorem t_1218 : (Jvm.Cond.instanceMethod ({ cls := "CanoeSidesModel", name := "want", desc := "(ZII)Z" } : Jvm.MethodName)) ∈ TB := tb_of 1218 (by decide +kernel) rfl
theorem t_1219 : (Jvm.Cond.code ({ cls := "CanoeSidesModel", name := "want", desc := "(ZII)Z" } : Jvm.MethodName) prog_13_method_9_code (4 : Nat) (Option.some Jvm.ClassFile.FieldType.boolean)) ∈ TB := tb_of 1219 (by decide +kernel) rfl
theorem t_1220 : (Jvm.Cond.methodLink "CanoeSidesModel" (115 : Nat) ({ cls := "CanoeSidesModel", name := "has", desc := "(II)Z" } : Jvm.MethodName)) ∈ TB := tb_of 1220 (by decide +kernel) rfl
theorem t_1221 : (Jvm.Cond.static ({ cls := "CanoeSidesModel", name := "has", desc := "(II)Z" } : Jvm.MethodName)) ∈ TB := tb_of 1221 (by decide +kernel) rfl
theorem t_1222 : (Jvm.Cond.code ({ cls := "CanoeSidesModel", name := "has", desc := "(II)Z" } : Jvm.MethodName) prog_13_method_5_code (2 : Nat) (Option.some Jvm.ClassFile.FieldType.boolean)) ∈ TB := tb_of 1222 (by decide +kernel) rfl
theorem t_1223 : (Jvm.Cond.methodLink "CanoeSidesModel" (119 : Nat) ({ cls := "CanoeSidesModel", name := "takeRiver", desc := "()V" } : Jvm.MethodName)) ∈ TB := tb_of 1223 (by decide +kernel) rfl
theorem t_1225 : (Jvm.Cond.instanceMethod ({ cls := "CanoeSidesModel", name := "takeRiver", desc := "()V" } : Jvm.MethodName)) ∈ TB := tb_of 1225 (by decide +kernel) rfl
theorem t_1226 : (Jvm.Cond.code ({ cls := "CanoeSidesModel", name := "takeRiver", desc := "()V" } : Jvm.MethodName) prog_13_method_13_code (7 : Nat) (Option.none : Option Jvm.ClassFile.FieldType)) ∈ TB := tb_of 1226 (by decide +kernel) rfl
theorem t_1227 : (Jvm.Cond.methodLink "CanoeSidesModel" (98 : Nat) ({ cls := "CanoeSidesModel", name := "takeNumber", desc := "(II)I" } : Jvm.MethodName)) ∈ TB := tb_of 1227 (by decide +kernel) rfl
theorem t_1229 : (Jvm.Cond.instanceMethod ({ cls := "CanoeSidesModel", name := "takeNumber", desc := "(II)I" } : Jvm.MethodName)) ∈ TB := tb_of 1229 (by decide +kernel) rfl
theorem t_1230 : (Jvm.Cond.code ({ cls := "CanoeSidesModel", name := "takeNumber", desc := "(II)I" } : Jvm.MethodName) prog_13_method_10_code (6 : Nat) (Option.some Jvm.ClassFile.FieldType.int)) ∈ TB := tb_of 1230 (by decide +kernel) rfl
theorem t_1231 : (Jvm.Cond.constantLong "CanoeSidesModel" (89 : Nat) (48 : Int64)) ∈ TB := tb_of 1231 (by decide +kernel) rfl
theorem t_1232 : (Jvm.Cond.constantLong "CanoeSidesModel" (91 : Nat) (57 : Int64)) ∈ TB := tb_of 1232 (by decide +kernel) rfl
theorem t_1233 : (Jvm.Cond.constant "CanoeSidesModel" (97 : Nat) (99999 : Int32)) ∈ TB := tb_of 1233 (by decide +kernel) rfl
theorem t_1234 : (Jvm.Cond.methodLink "CanoeSidesModel" (102 : Nat) ({ cls := "CanoeSidesModel", name := "squareOf", desc := "(I)I" } : Jvm.MethodName)) ∈ TB := tb_of 1234 (by decide +kernel) rfl
theorem t_1235 : (Jvm.Cond.static ({ cls := "CanoeSidesModel", name := "squareOf", desc := "(I)I" } : Jvm.MethodName)) ∈ TB := tb_of 1235 (by decide +kernel) rfl
theorem t_1236 : (Jvm.Cond.code ({ cls := "CanoeSidesModel", name := "squareOf", desc := "(I)I" } : Jvm.MethodName) prog_13_method_11_code (1 : Nat) (Option.some Jvm.ClassFile.FieldType.int)) ∈ TB := tb_of 1236 (by decide +kernel) rfl
theorem t_1237 : (Jvm.Cond.methodLink "CanoeSidesModel" (122 : Nat) ({ cls := "CanoeSidesModel", name := "takeSquare", desc := "()I" } : Jvm.MethodName)) ∈ TB := tb_of 1237 (by decide +kernel) rfl
theorem t_1239 : (Jvm.Cond.instanceMethod ({ cls := "CanoeSidesModel", name := "takeSquare", desc := "()I" } : Jvm.MethodName)) ∈ TB := tb_of 1239 (by decide +kernel) rfl
theorem t_1240 : (Jvm.Cond.code ({ cls := "CanoeSidesModel", name := "takeSquare", desc := "()I" } : Jvm.MethodName) prog_13_method_14_code (4 : Nat) (Option.some Jvm.ClassFile.FieldType.int)) ∈ TB := tb_of 1240 (by decide +kernel) rfl
theorem t_1241 : (Jvm.Cond.methodLink "CanoeSidesModel" (125 : Nat) ({ cls := "CanoeSidesModel", name := "takeHabits", desc := "()V" } : Jvm.MethodName)) ∈ TB := tb_of 1241 (by decide +kernel) rfl
theorem t_1243 : (Jvm.Cond.instanceMethod ({ cls := "CanoeSidesModel", name := "takeHabits", desc := "()V" } : Jvm.MethodName)) ∈ TB := tb_of 1243 (by decide +kernel) rfl
theorem t_1244 : (Jvm.Cond.code ({ cls := "CanoeSidesModel", name := "takeHabits", desc := "()V" } : Jvm.MethodName) prog_13_method_15_code (3 : Nat) (Option.none : Option Jvm.ClassFile.FieldType)) ∈ TB := tb_of 1244 (by decide +kernel) rfl
theorem t_1245 : (Jvm.Cond.methodLink "CanoeSidesModel" (106 : Nat) ({ cls := "CanoeSidesModel", name := "strokeOf", desc := "(I)I" } : Jvm.MethodName)) ∈ TB := tb_of 1245 (by decide +kernel) rfl
theorem t_1246 : (Jvm.Cond.static ({ cls := "CanoeSidesModel", name := "strokeOf", desc := "(I)I" } : Jvm.MethodName)) ∈ TB := tb_of 1246 (by decide +kernel) rfl
theorem t_1247 : (Jvm.Cond.code ({ cls := "CanoeSidesModel", name := "strokeOf", desc := "(I)I" } : Jvm.MethodName) prog_13_method_12_code (1 : Nat) (Option.some Jvm.ClassFile.FieldType.int)) ∈ TB := tb_of 1247 (by decide +kernel) rfl
theorem t_1248 : (Jvm.Cond.methodLink "CanoeSidesModel" (131 : Nat) ({ cls := "CanoeSidesModel", name := "squares", desc := "(I)I" } : Jvm.MethodName)) ∈ TB := tb_of 1248 (by decide +kernel) rfl
theorem t_1250 : (Jvm.Cond.instanceMethod ({ cls := "CanoeSidesModel", name := "squares", desc := "(I)I" } : Jvm.MethodName)) ∈ TB := tb_of 1250 (by decide +kernel) rfl
theorem t_1251 : (Jvm.Cond.code ({ cls := "CanoeSidesModel", name := "squares", desc := "(I)I" } : Jvm.MethodName) prog_13_method_20_code (2 : Nat) (Option.some Jvm.ClassFile.FieldType.int)) ∈ TB := tb_of 1251 (by decide +kernel) rfl
theorem t_1260 : (Jvm.Cond.methodLink "CanoeSidesModel" (147 : Nat) ({ cls := "CanoeSidesModel", name := "pair", desc := "(I)I" } : Jvm.MethodName)) ∈ TB := tb_of 1260 (by decide +kernel) rfl
theorem t_1262 : (Jvm.Cond.instanceMethod ({ cls := "CanoeSidesModel", name := "pair", desc := "(I)I" } : Jvm.MethodName)) ∈ TB := tb_of 1262 (by decide +kernel) rfl
theorem t_1263 : (Jvm.Cond.code ({ cls := "CanoeSidesModel", name := "pair", desc := "(I)I" } : Jvm.MethodName) prog_13_method_22_code (2 : Nat) (Option.some Jvm.ClassFile.FieldType.int)) ∈ TB := tb_of 1263 (by decide +kernel) rfl
theorem t_1264 : (Jvm.Cond.methodLink "CanoeSidesModel" (143 : Nat) ({ cls := "CanoeSidesModel", name := "isNone", desc := "()Z" } : Jvm.MethodName)) ∈ TB := tb_of 1264 (by decide +kernel) rfl
theorem t_1266 : (Jvm.Cond.instanceMethod ({ cls := "CanoeSidesModel", name := "isNone", desc := "()Z" } : Jvm.MethodName)) ∈ TB := tb_of 1266 (by decide +kernel) rfl
theorem t_1267 : (Jvm.Cond.code ({ cls := "CanoeSidesModel", name := "isNone", desc := "()Z" } : Jvm.MethodName) prog_13_method_21_code (1 : Nat) (Option.some Jvm.ClassFile.FieldType.boolean)) ∈ TB := tb_of 1267 (by decide +kernel) rfl
theorem t_1268 : (Jvm.Cond.methodLink "CanoeSidesModel" (150 : Nat) ({ cls := "CanoeSidesModel", name := "isGoal", desc := "(II)Z" } : Jvm.MethodName)) ∈ TB := tb_of 1268 (by decide +kernel) rfl
theorem t_1270 : (Jvm.Cond.instanceMethod ({ cls := "CanoeSidesModel", name := "isGoal", desc := "(II)Z" } : Jvm.MethodName)) ∈ TB := tb_of 1270 (by decide +kernel) rfl
theorem t_1271 : (Jvm.Cond.code ({ cls := "CanoeSidesModel", name := "isGoal", desc := "(II)Z" } : Jvm.MethodName) prog_13_method_24_code (3 : Nat) (Option.some Jvm.ClassFile.FieldType.boolean)) ∈ TB := tb_of 1271 (by decide +kernel) rfl
theorem t_1272 : (Jvm.Cond.methodLink "CanoeSidesModel" (153 : Nat) ({ cls := "CanoeSidesModel", name := "one", desc := "(Z)I" } : Jvm.MethodName)) ∈ TB := tb_of 1272 (by decide +kernel) rfl
theorem t_1273 : (Jvm.Cond.static ({ cls := "CanoeSidesModel", name := "one", desc := "(Z)I" } : Jvm.MethodName)) ∈ TB := tb_of 1273 (by decide +kernel) rfl
theorem t_1274 : (Jvm.Cond.code ({ cls := "CanoeSidesModel", name := "one", desc := "(Z)I" } : Jvm.MethodName) prog_13_method_4_code (1 : Nat) (Option.some Jvm.ClassFile.FieldType.int)) ∈ TB := tb_of 1274 (by decide +kernel) rfl
theorem t_1279 : (Jvm.Cond.methodLink "CanoeSidesModel" (157 : Nat) ({ cls := "CanoeSidesModel", name := "isSquare", desc := "(II)Z" } : Jvm.MethodName)) ∈ TB := tb_of 1279 (by decide +kernel) rfl
theorem t_1281 : (Jvm.Cond.instanceMethod ({ cls := "CanoeSidesModel", name := "isSquare", desc := "(II)Z" } : Jvm.MethodName)) ∈ TB := tb_of 1281 (by decide +kernel) rfl
theorem t_1282 : (Jvm.Cond.code ({ cls := "CanoeSidesModel", name := "isSquare", desc := "(II)Z" } : Jvm.MethodName) prog_13_method_23_code (3 : Nat) (Option.some Jvm.ClassFile.FieldType.boolean)) ∈ TB := tb_of 1282 (by decide +kernel) rfl
theorem t_1283 : (Jvm.Cond.constant "CanoeSidesModel" (160 : Nat) (-1000000001 : Int32)) ∈ TB := tb_of 1283 (by decide +kernel) rfl
theorem t_1288 : (Jvm.Cond.constantLong "CanoeSidesModel" (161 : Nat) (3 : Int64)) ∈ TB := tb_of 1288 (by decide +kernel) rfl
theorem t_1293 : (Jvm.Cond.methodLink "CanoeSidesModel" (211 : Nat) ({ cls := "CanoeSidesModel", name := "isStroke", desc := "(I)Z" } : Jvm.MethodName)) ∈ TB := tb_of 1293 (by decide +kernel) rfl
theorem t_1294 : (Jvm.Cond.static ({ cls := "CanoeSidesModel", name := "isStroke", desc := "(I)Z" } : Jvm.MethodName)) ∈ TB := tb_of 1294 (by decide +kernel) rfl
theorem t_1295 : (Jvm.Cond.code ({ cls := "CanoeSidesModel", name := "isStroke", desc := "(I)Z" } : Jvm.MethodName) prog_13_method_40_code (1 : Nat) (Option.some Jvm.ClassFile.FieldType.boolean)) ∈ TB := tb_of 1295 (by decide +kernel) rfl
theorem t_1296 : (Jvm.Cond.constant "CanoeSidesModel" (215 : Nat) (-1000000003 : Int32)) ∈ TB := tb_of 1296 (by decide +kernel) rfl
theorem t_1297 : (Jvm.Cond.methodLink "CanoeSidesModel" (216 : Nat) ({ cls := "CanoeSidesModel", name := "go", desc := "(II)V" } : Jvm.MethodName)) ∈ TB := tb_of 1297 (by decide +kernel) rfl
theorem t_1299 : (Jvm.Cond.instanceMethod ({ cls := "CanoeSidesModel", name := "go", desc := "(II)V" } : Jvm.MethodName)) ∈ TB := tb_of 1299 (by decide +kernel) rfl
theorem t_1300 : (Jvm.Cond.code ({ cls := "CanoeSidesModel", name := "go", desc := "(II)V" } : Jvm.MethodName) prog_13_method_39_code (3 : Nat) (Option.none : Option Jvm.ClassFile.FieldType)) ∈ TB := tb_of 1300 (by decide +kernel) rfl
theorem t_1301 : (Jvm.Cond.methodLink "CanoeSidesModel" (201 : Nat) ({ cls := "CanoeSidesModel", name := "remember", desc := "()V" } : Jvm.MethodName)) ∈ TB := tb_of 1301 (by decide +kernel) rfl
theorem t_1303 : (Jvm.Cond.instanceMethod ({ cls := "CanoeSidesModel", name := "remember", desc := "()V" } : Jvm.MethodName)) ∈ TB := tb_of 1303 (by decide +kernel) rfl
theorem t_1304 : (Jvm.Cond.code ({ cls := "CanoeSidesModel", name := "remember", desc := "()V" } : Jvm.MethodName) prog_13_method_38_code (2 : Nat) (Option.none : Option Jvm.ClassFile.FieldType)) ∈ TB := tb_of 1304 (by decide +kernel) rfl
theorem t_1305 : (Jvm.Cond.methodLink "CanoeSidesModel" (204 : Nat) ({ cls := "CanoeSidesModel", name := "strokeFrom", desc := "(IIII)V" } : Jvm.MethodName)) ∈ TB := tb_of 1305 (by decide +kernel) rfl
theorem t_1307 : (Jvm.Cond.instanceMethod ({ cls := "CanoeSidesModel", name := "strokeFrom", desc := "(IIII)V" } : Jvm.MethodName)) ∈ TB := tb_of 1307 (by decide +kernel) rfl
theorem t_1308 : (Jvm.Cond.code ({ cls := "CanoeSidesModel", name := "strokeFrom", desc := "(IIII)V" } : Jvm.MethodName) prog_13_method_36_code (9 : Nat) (Option.none : Option Jvm.ClassFile.FieldType)) ∈ TB := tb_of 1308 (by decide +kernel) rfl
theorem t_1309 : (Jvm.Cond.methodLink "CanoeSidesModel" (186 : Nat) ({ cls := "CanoeSidesModel", name := "turnBy", desc := "(II)I" } : Jvm.MethodName)) ∈ TB := tb_of 1309 (by decide +kernel) rfl
theorem t_1311 : (Jvm.Cond.instanceMethod ({ cls := "CanoeSidesModel", name := "turnBy", desc := "(II)I" } : Jvm.MethodName)) ∈ TB := tb_of 1311 (by decide +kernel) rfl
theorem t_1312 : (Jvm.Cond.code ({ cls := "CanoeSidesModel", name := "turnBy", desc := "(II)I" } : Jvm.MethodName) prog_13_method_30_code (3 : Nat) (Option.some Jvm.ClassFile.FieldType.int)) ∈ TB := tb_of 1312 (by decide +kernel) rfl
theorem t_1313 : (Jvm.Cond.methodLink "CanoeSidesModel" (163 : Nat) ({ cls := "CanoeSidesModel", name := "side", desc := "(I)I" } : Jvm.MethodName)) ∈ TB := tb_of 1313 (by decide +kernel) rfl
theorem t_1314 : (Jvm.Cond.static ({ cls := "CanoeSidesModel", name := "side", desc := "(I)I" } : Jvm.MethodName)) ∈ TB := tb_of 1314 (by decide +kernel) rfl
theorem t_1315 : (Jvm.Cond.code ({ cls := "CanoeSidesModel", name := "side", desc := "(I)I" } : Jvm.MethodName) prog_13_method_28_code (1 : Nat) (Option.some Jvm.ClassFile.FieldType.int)) ∈ TB := tb_of 1315 (by decide +kernel) rfl
theorem t_1316 : (Jvm.Cond.methodLink "CanoeSidesModel" (192 : Nat) ({ cls := "CanoeSidesModel", name := "pushBy", desc := "(II)I" } : Jvm.MethodName)) ∈ TB := tb_of 1316 (by decide +kernel) rfl
theorem t_1318 : (Jvm.Cond.instanceMethod ({ cls := "CanoeSidesModel", name := "pushBy", desc := "(II)I" } : Jvm.MethodName)) ∈ TB := tb_of 1318 (by decide +kernel) rfl
theorem t_1319 : (Jvm.Cond.code ({ cls := "CanoeSidesModel", name := "pushBy", desc := "(II)I" } : Jvm.MethodName) prog_13_method_31_code (4 : Nat) (Option.some Jvm.ClassFile.FieldType.int)) ∈ TB := tb_of 1319 (by decide +kernel) rfl
theorem t_1320 : (Jvm.Cond.methodLink "CanoeSidesModel" (169 : Nat) ({ cls := "CanoeSidesModel", name := "strike", desc := "(I)I" } : Jvm.MethodName)) ∈ TB := tb_of 1320 (by decide +kernel) rfl
theorem t_1321 : (Jvm.Cond.static ({ cls := "CanoeSidesModel", name := "strike", desc := "(I)I" } : Jvm.MethodName)) ∈ TB := tb_of 1321 (by decide +kernel) rfl
theorem t_1322 : (Jvm.Cond.code ({ cls := "CanoeSidesModel", name := "strike", desc := "(I)I" } : Jvm.MethodName) prog_13_method_29_code (1 : Nat) (Option.some Jvm.ClassFile.FieldType.int)) ∈ TB := tb_of 1322 (by decide +kernel) rfl
theorem t_1323 : (Jvm.Cond.methodLink "CanoeSidesModel" (176 : Nat) ({ cls := "CanoeSidesModel", name := "east", desc := "(I)I" } : Jvm.MethodName)) ∈ TB := tb_of 1323 (by decide +kernel) rfl
theorem t_1324 : (Jvm.Cond.static ({ cls := "CanoeSidesModel", name := "east", desc := "(I)I" } : Jvm.MethodName)) ∈ TB := tb_of 1324 (by decide +kernel) rfl
theorem t_1325 : (Jvm.Cond.code ({ cls := "CanoeSidesModel", name := "east", desc := "(I)I" } : Jvm.MethodName) prog_13_method_32_code (1 : Nat) (Option.some Jvm.ClassFile.FieldType.int)) ∈ TB := tb_of 1325 (by decide +kernel) rfl
theorem t_1326 : (Jvm.Cond.constantLong "CanoeSidesModel" (172 : Nat) (5 : Int64)) ∈ TB := tb_of 1326 (by decide +kernel) rfl
theorem t_1327 : (Jvm.Cond.constantLong "CanoeSidesModel" (174 : Nat) (7 : Int64)) ∈ TB := tb_of 1327 (by decide +kernel) rfl
theorem t_1328 : (Jvm.Cond.methodLink "CanoeSidesModel" (179 : Nat) ({ cls := "CanoeSidesModel", name := "north", desc := "(I)I" } : Jvm.MethodName)) ∈ TB := tb_of 1328 (by decide +kernel) rfl
theorem t_1329 : (Jvm.Cond.static ({ cls := "CanoeSidesModel", name := "north", desc := "(I)I" } : Jvm.MethodName)) ∈ TB := tb_of 1329 (by decide +kernel) rfl
theorem t_1330 : (Jvm.Cond.code ({ cls := "CanoeSidesModel", name := "north", desc := "(I)I" } : Jvm.MethodName) prog_13_method_33_code (1 : Nat) (Option.some Jvm.ClassFile.FieldType.int)) ∈ TB := tb_of 1330 (by decide +kernel) rfl
theorem t_1331 : (Jvm.Cond.methodLink "CanoeSidesModel" (182 : Nat) ({ cls := "CanoeSidesModel", name := "beside", desc := "(III)I" } : Jvm.MethodName)) ∈ TB := tb_of 1331 (by decide +kernel) rfl
theorem t_1333 : (Jvm.Cond.instanceMethod ({ cls := "CanoeSidesModel", name := "beside", desc := "(III)I" } : Jvm.MethodName)) ∈ TB := tb_of 1333 (by decide +kernel) rfl
theorem t_1334 : (Jvm.Cond.code ({ cls := "CanoeSidesModel", name := "beside", desc := "(III)I" } : Jvm.MethodName) prog_13_method_34_code (6 : Nat) (Option.some Jvm.ClassFile.FieldType.int)) ∈ TB := tb_of 1334 (by decide +kernel) rfl
theorem t_1335 : (Jvm.Cond.methodLink "CanoeSidesModel" (198 : Nat) ({ cls := "CanoeSidesModel", name := "driven", desc := "(II)I" } : Jvm.MethodName)) ∈ TB := tb_of 1335 (by decide +kernel) rfl
theorem t_1337 : (Jvm.Cond.instanceMethod ({ cls := "CanoeSidesModel", name := "driven", desc := "(II)I" } : Jvm.MethodName)) ∈ TB := tb_of 1337 (by decide +kernel) rfl
theorem t_1338 : (Jvm.Cond.code ({ cls := "CanoeSidesModel", name := "driven", desc := "(II)I" } : Jvm.MethodName) prog_13_method_35_code (3 : Nat) (Option.some Jvm.ClassFile.FieldType.int)) ∈ TB := tb_of 1338 (by decide +kernel) rfl
theorem t_1339 : (Jvm.Cond.methodLink "CanoeSidesModel" (208 : Nat) ({ cls := "CanoeSidesModel", name := "windAt", desc := "(I)V" } : Jvm.MethodName)) ∈ TB := tb_of 1339 (by decide +kernel) rfl
theorem t_1341 : (Jvm.Cond.instanceMethod ({ cls := "CanoeSidesModel", name := "windAt", desc := "(I)V" } : Jvm.MethodName)) ∈ TB := tb_of 1341 (by decide +kernel) rfl
theorem t_1342 : (Jvm.Cond.code ({ cls := "CanoeSidesModel", name := "windAt", desc := "(I)V" } : Jvm.MethodName) prog_13_method_37_code (3 : Nat) (Option.none : Option Jvm.ClassFile.FieldType)) ∈ TB := tb_of 1342 (by decide +kernel) rfl
theorem t_1351 : (Jvm.Cond.constantLong "CanoeSidesModel" (220 : Nat) (50 : Int64)) ∈ TB := tb_of 1351 (by decide +kernel) rfl
theorem t_1360 : (Jvm.Cond.constantLong "CanoeSidesModel" (229 : Nat) (99 : Int64)) ∈ TB := tb_of 1360 (by decide +kernel) rfl
theorem t_1361 : (Jvm.Cond.methodLink "CanoeSidesModel" (231 : Nat) ({ cls := "CanoeSidesModel", name := "draw", desc := "(I)I" } : Jvm.MethodName)) ∈ TB := tb_of 1361 (by decide +kernel) rfl
theorem t_1363 : (Jvm.Cond.instanceMethod ({ cls := "CanoeSidesModel", name := "draw", desc := "(I)I" } : Jvm.MethodName)) ∈ TB := tb_of 1363 (by decide +kernel) rfl
theorem t_1364 : (Jvm.Cond.code ({ cls := "CanoeSidesModel", name := "draw", desc := "(I)I" } : Jvm.MethodName) prog_13_method_45_code (2 : Nat) (Option.some Jvm.ClassFile.FieldType.int)) ∈ TB := tb_of 1364 (by decide +kernel) rfl
theorem t_1365 : (Jvm.Cond.constantLong "CanoeSidesModel" (222 : Nat) (1103515245 : Int64)) ∈ TB := tb_of 1365 (by decide +kernel) rfl
theorem t_1366 : (Jvm.Cond.constantLong "CanoeSidesModel" (224 : Nat) (12345 : Int64)) ∈ TB := tb_of 1366 (by decide +kernel) rfl
theorem t_1367 : (Jvm.Cond.constantLong "CanoeSidesModel" (226 : Nat) (2147483648 : Int64)) ∈ TB := tb_of 1367 (by decide +kernel) rfl
theorem t_1368 : (Jvm.Cond.constant "CanoeSidesModel" (228 : Nat) (65536 : Int32)) ∈ TB := tb_of 1368 (by decide +kernel) rfl
theorem t_1373 : (Jvm.Cond.methodLink "CanoeSidesModel" (262 : Nat) ({ cls := "CanoeSidesModel", name := "findFarBy", desc := "(II)V" } : Jvm.MethodName)) ∈ TB := tb_of 1373 (by decide +kernel) rfl
theorem t_1375 : (Jvm.Cond.instanceMethod ({ cls := "CanoeSidesModel", name := "findFarBy", desc := "(II)V" } : Jvm.MethodName)) ∈ TB := tb_of 1375 (by decide +kernel) rfl
theorem t_1376 : (Jvm.Cond.code ({ cls := "CanoeSidesModel", name := "findFarBy", desc := "(II)V" } : Jvm.MethodName) prog_13_method_55_code (3 : Nat) (Option.none : Option Jvm.ClassFile.FieldType)) ∈ TB := tb_of 1376 (by decide +kernel) rfl
theorem t_1377 : (Jvm.Cond.methodLink "CanoeSidesModel" (259 : Nat) ({ cls := "CanoeSidesModel", name := "findFar", desc := "()V" } : Jvm.MethodName)) ∈ TB := tb_of 1377 (by decide +kernel) rfl
theorem t_1379 : (Jvm.Cond.instanceMethod ({ cls := "CanoeSidesModel", name := "findFar", desc := "()V" } : Jvm.MethodName)) ∈ TB := tb_of 1379 (by decide +kernel) rfl
theorem t_1380 : (Jvm.Cond.code ({ cls := "CanoeSidesModel", name := "findFar", desc := "()V" } : Jvm.MethodName) prog_13_method_54_code (5 : Nat) (Option.none : Option Jvm.ClassFile.FieldType)) ∈ TB := tb_of 1380 (by decide +kernel) rfl
theorem t_1381 : (Jvm.Cond.methodLink "CanoeSidesModel" (250 : Nat) ({ cls := "CanoeSidesModel", name := "states", desc := "()I" } : Jvm.MethodName)) ∈ TB := tb_of 1381 (by decide +kernel) rfl
theorem t_1383 : (Jvm.Cond.instanceMethod ({ cls := "CanoeSidesModel", name := "states", desc := "()I" } : Jvm.MethodName)) ∈ TB := tb_of 1383 (by decide +kernel) rfl
theorem t_1384 : (Jvm.Cond.code ({ cls := "CanoeSidesModel", name := "states", desc := "()I" } : Jvm.MethodName) prog_13_method_50_code (1 : Nat) (Option.some Jvm.ClassFile.FieldType.int)) ∈ TB := tb_of 1384 (by decide +kernel) rfl
theorem t_1385 : (Jvm.Cond.methodLink "CanoeSidesModel" (234 : Nat) ({ cls := "CanoeSidesModel", name := "times", desc := "()I" } : Jvm.MethodName)) ∈ TB := tb_of 1385 (by decide +kernel) rfl
theorem t_1387 : (Jvm.Cond.instanceMethod ({ cls := "CanoeSidesModel", name := "times", desc := "()I" } : Jvm.MethodName)) ∈ TB := tb_of 1387 (by decide +kernel) rfl
theorem t_1388 : (Jvm.Cond.code ({ cls := "CanoeSidesModel", name := "times", desc := "()I" } : Jvm.MethodName) prog_13_method_47_code (1 : Nat) (Option.some Jvm.ClassFile.FieldType.int)) ∈ TB := tb_of 1388 (by decide +kernel) rfl
theorem t_1389 : (Jvm.Cond.methodLink "CanoeSidesModel" (253 : Nat) ({ cls := "CanoeSidesModel", name := "isGoalState", desc := "(I)Z" } : Jvm.MethodName)) ∈ TB := tb_of 1389 (by decide +kernel) rfl
theorem t_1391 : (Jvm.Cond.instanceMethod ({ cls := "CanoeSidesModel", name := "isGoalState", desc := "(I)Z" } : Jvm.MethodName)) ∈ TB := tb_of 1391 (by decide +kernel) rfl
theorem t_1392 : (Jvm.Cond.code ({ cls := "CanoeSidesModel", name := "isGoalState", desc := "(I)Z" } : Jvm.MethodName) prog_13_method_52_code (3 : Nat) (Option.some Jvm.ClassFile.FieldType.boolean)) ∈ TB := tb_of 1392 (by decide +kernel) rfl
theorem t_1393 : (Jvm.Cond.constant "CanoeSidesModel" (240 : Nat) (99999999 : Int32)) ∈ TB := tb_of 1393 (by decide +kernel) rfl
theorem t_1394 : (Jvm.Cond.methodLink "CanoeSidesModel" (256 : Nat) ({ cls := "CanoeSidesModel", name := "leastAfter", desc := "(I)I" } : Jvm.MethodName)) ∈ TB := tb_of 1394 (by decide +kernel) rfl
theorem t_1396 : (Jvm.Cond.instanceMethod ({ cls := "CanoeSidesModel", name := "leastAfter", desc := "(I)I" } : Jvm.MethodName)) ∈ TB := tb_of 1396 (by decide +kernel) rfl
theorem t_1397 : (Jvm.Cond.code ({ cls := "CanoeSidesModel", name := "leastAfter", desc := "(I)I" } : Jvm.MethodName) prog_13_method_53_code (6 : Nat) (Option.some Jvm.ClassFile.FieldType.int)) ∈ TB := tb_of 1397 (by decide +kernel) rfl
theorem t_1398 : (Jvm.Cond.methodLink "CanoeSidesModel" (247 : Nat) ({ cls := "CanoeSidesModel", name := "after", desc := "(III)I" } : Jvm.MethodName)) ∈ TB := tb_of 1398 (by decide +kernel) rfl
theorem t_1400 : (Jvm.Cond.instanceMethod ({ cls := "CanoeSidesModel", name := "after", desc := "(III)I" } : Jvm.MethodName)) ∈ TB := tb_of 1400 (by decide +kernel) rfl
theorem t_1401 : (Jvm.Cond.code ({ cls := "CanoeSidesModel", name := "after", desc := "(III)I" } : Jvm.MethodName) prog_13_method_51_code (6 : Nat) (Option.some Jvm.ClassFile.FieldType.int)) ∈ TB := tb_of 1401 (by decide +kernel) rfl
theorem t_1402 : (Jvm.Cond.methodLink "CanoeSidesModel" (237 : Nat) ({ cls := "CanoeSidesModel", name := "stateOf", desc := "(III)I" } : Jvm.MethodName)) ∈ TB := tb_of 1402 (by decide +kernel) rfl
theorem t_1404 : (Jvm.Cond.instanceMethod ({ cls := "CanoeSidesModel", name := "stateOf", desc := "(III)I" } : Jvm.MethodName)) ∈ TB := tb_of 1404 (by decide +kernel) rfl
theorem t_1405 : (Jvm.Cond.code ({ cls := "CanoeSidesModel", name := "stateOf", desc := "(III)I" } : Jvm.MethodName) prog_13_method_48_code (4 : Nat) (Option.some Jvm.ClassFile.FieldType.int)) ∈ TB := tb_of 1405 (by decide +kernel) rfl
theorem t_1406 : (Jvm.Cond.methodLink "CanoeSidesModel" (265 : Nat) ({ cls := "CanoeSidesModel", name := "stateNow", desc := "()I" } : Jvm.MethodName)) ∈ TB := tb_of 1406 (by decide +kernel) rfl
theorem t_1408 : (Jvm.Cond.instanceMethod ({ cls := "CanoeSidesModel", name := "stateNow", desc := "()I" } : Jvm.MethodName)) ∈ TB := tb_of 1408 (by decide +kernel) rfl
theorem t_1409 : (Jvm.Cond.code ({ cls := "CanoeSidesModel", name := "stateNow", desc := "()I" } : Jvm.MethodName) prog_13_method_49_code (1 : Nat) (Option.some Jvm.ClassFile.FieldType.int)) ∈ TB := tb_of 1409 (by decide +kernel) rfl
theorem t_1418 : (Jvm.Cond.constantLong "CanoeSidesModel" (268 : Nat) (9 : Int64)) ∈ TB := tb_of 1418 (by decide +kernel) rfl
theorem t_1423 : (Jvm.Cond.constantLong "CanoeSidesModel" (270 : Nat) (15 : Int64)) ∈ TB := tb_of 1423 (by decide +kernel) rfl
theorem t_1424 : (Jvm.Cond.methodLink "CanoeSidesModel" (272 : Nat) ({ cls := "CanoeSidesModel", name := "leastCalled", desc := "()I" } : Jvm.MethodName)) ∈ TB := tb_of 1424 (by decide +kernel) rfl
theorem t_1426 : (Jvm.Cond.instanceMethod ({ cls := "CanoeSidesModel", name := "leastCalled", desc := "()I" } : Jvm.MethodName)) ∈ TB := tb_of 1426 (by decide +kernel) rfl
theorem t_1427 : (Jvm.Cond.code ({ cls := "CanoeSidesModel", name := "leastCalled", desc := "()I" } : Jvm.MethodName) prog_13_method_60_code (3 : Nat) (Option.some Jvm.ClassFile.FieldType.int)) ∈ TB := tb_of 1427 (by decide +kernel) rfl
theorem t_1428 : (Jvm.Cond.methodLink "CanoeSidesModel" (275 : Nat) ({ cls := "CanoeSidesModel", name := "callOn", desc := "()V" } : Jvm.MethodName)) ∈ TB := tb_of 1428 (by decide +kernel) rfl
theorem t_1430 : (Jvm.Cond.instanceMethod ({ cls := "CanoeSidesModel", name := "callOn", desc := "()V" } : Jvm.MethodName)) ∈ TB := tb_of 1430 (by decide +kernel) rfl
theorem t_1431 : (Jvm.Cond.code ({ cls := "CanoeSidesModel", name := "callOn", desc := "()V" } : Jvm.MethodName) prog_13_method_59_code (6 : Nat) (Option.none : Option Jvm.ClassFile.FieldType)) ∈ TB := tb_of 1431 (by decide +kernel) rfl
theorem t_1436 : (Jvm.Cond.constantLong "CanoeSidesModel" (278 : Nat) (2 : Int64)) ∈ TB := tb_of 1436 (by decide +kernel) rfl
theorem t_1437 : (Jvm.Cond.methodLink "CanoeSidesModel" (280 : Nat) ({ cls := "CanoeSidesModel", name := "afterMute", desc := "(I)I" } : Jvm.MethodName)) ∈ TB := tb_of 1437 (by decide +kernel) rfl
theorem t_1439 : (Jvm.Cond.instanceMethod ({ cls := "CanoeSidesModel", name := "afterMute", desc := "(I)I" } : Jvm.MethodName)) ∈ TB := tb_of 1439 (by decide +kernel) rfl
theorem t_1440 : (Jvm.Cond.code ({ cls := "CanoeSidesModel", name := "afterMute", desc := "(I)I" } : Jvm.MethodName) prog_13_method_62_code (4 : Nat) (Option.some Jvm.ClassFile.FieldType.int)) ∈ TB := tb_of 1440 (by decide +kernel) rfl
theorem t_1449 : (Jvm.Cond.methodLink "CanoeSidesModel" (289 : Nat) ({ cls := "CanoeSidesModel", name := "openWater", desc := "(II)V" } : Jvm.MethodName)) ∈ TB := tb_of 1449 (by decide +kernel) rfl
theorem t_1451 : (Jvm.Cond.instanceMethod ({ cls := "CanoeSidesModel", name := "openWater", desc := "(II)V" } : Jvm.MethodName)) ∈ TB := tb_of 1451 (by decide +kernel) rfl
theorem t_1452 : (Jvm.Cond.code ({ cls := "CanoeSidesModel", name := "openWater", desc := "(II)V" } : Jvm.MethodName) prog_13_method_65_code (7 : Nat) (Option.none : Option Jvm.ClassFile.FieldType)) ∈ TB := tb_of 1452 (by decide +kernel) rfl
theorem t_1457 : (Jvm.Cond.constant "CanoeSidesModel" (292 : Nat) (-99999999 : Int32)) ∈ TB := tb_of 1457 (by decide +kernel) rfl
theorem t_1462 : (Jvm.Cond.methodLink "CanoeSidesModel" (293 : Nat) ({ cls := "CanoeSidesModel", name := "stateBy", desc := "(II)I" } : Jvm.MethodName)) ∈ TB := tb_of 1462 (by decide +kernel) rfl
theorem t_1464 : (Jvm.Cond.instanceMethod ({ cls := "CanoeSidesModel", name := "stateBy", desc := "(II)I" } : Jvm.MethodName)) ∈ TB := tb_of 1464 (by decide +kernel) rfl
theorem t_1465 : (Jvm.Cond.code ({ cls := "CanoeSidesModel", name := "stateBy", desc := "(II)I" } : Jvm.MethodName) prog_13_method_68_code (6 : Nat) (Option.some Jvm.ClassFile.FieldType.int)) ∈ TB := tb_of 1465 (by decide +kernel) rfl
theorem t_1470 : (Jvm.Cond.methodLink "CanoeSidesModel" (302 : Nat) ({ cls := "CanoeSidesModel", name := "findSure", desc := "()V" } : Jvm.MethodName)) ∈ TB := tb_of 1470 (by decide +kernel) rfl
theorem t_1472 : (Jvm.Cond.instanceMethod ({ cls := "CanoeSidesModel", name := "findSure", desc := "()V" } : Jvm.MethodName)) ∈ TB := tb_of 1472 (by decide +kernel) rfl
theorem t_1473 : (Jvm.Cond.code ({ cls := "CanoeSidesModel", name := "findSure", desc := "()V" } : Jvm.MethodName) prog_13_method_72_code (5 : Nat) (Option.none : Option Jvm.ClassFile.FieldType)) ∈ TB := tb_of 1473 (by decide +kernel) rfl
theorem t_1474 : (Jvm.Cond.methodLink "CanoeSidesModel" (299 : Nat) ({ cls := "CanoeSidesModel", name := "leastWorst", desc := "(I)I" } : Jvm.MethodName)) ∈ TB := tb_of 1474 (by decide +kernel) rfl
theorem t_1476 : (Jvm.Cond.instanceMethod ({ cls := "CanoeSidesModel", name := "leastWorst", desc := "(I)I" } : Jvm.MethodName)) ∈ TB := tb_of 1476 (by decide +kernel) rfl
theorem t_1477 : (Jvm.Cond.code ({ cls := "CanoeSidesModel", name := "leastWorst", desc := "(I)I" } : Jvm.MethodName) prog_13_method_71_code (5 : Nat) (Option.some Jvm.ClassFile.FieldType.int)) ∈ TB := tb_of 1477 (by decide +kernel) rfl
theorem t_1478 : (Jvm.Cond.methodLink "CanoeSidesModel" (296 : Nat) ({ cls := "CanoeSidesModel", name := "worst", desc := "(III)I" } : Jvm.MethodName)) ∈ TB := tb_of 1478 (by decide +kernel) rfl
theorem t_1480 : (Jvm.Cond.instanceMethod ({ cls := "CanoeSidesModel", name := "worst", desc := "(III)I" } : Jvm.MethodName)) ∈ TB := tb_of 1480 (by decide +kernel) rfl
theorem t_1481 : (Jvm.Cond.code ({ cls := "CanoeSidesModel", name := "worst", desc := "(III)I" } : Jvm.MethodName) prog_13_method_70_code (6 : Nat) (Option.some Jvm.ClassFile.FieldType.int)) ∈ TB := tb_of 1481 (by decide +kernel) rfl
theorem t_1486 : (Jvm.Cond.methodLink "CanoeSidesModel" (308 : Nat) ({ cls := "CanoeSidesModel", name := "strokesBy", desc := "(II)I" } : Jvm.MethodName)) ∈ TB := tb_of 1486 (by decide +kernel) rfl
theorem t_1488 : (Jvm.Cond.instanceMethod ({ cls := "CanoeSidesModel", name := "strokesBy", desc := "(II)I" } : Jvm.MethodName)) ∈ TB := tb_of 1488 (by decide +kernel) rfl
theorem t_1489 : (Jvm.Cond.code ({ cls := "CanoeSidesModel", name := "strokesBy", desc := "(II)I" } : Jvm.MethodName) prog_13_method_75_code (8 : Nat) (Option.some Jvm.ClassFile.FieldType.int)) ∈ TB := tb_of 1489 (by decide +kernel) rfl
theorem t_1490 : (Jvm.Cond.methodLink "CanoeSidesModel" (305 : Nat) ({ cls := "CanoeSidesModel", name := "byRule", desc := "(II)I" } : Jvm.MethodName)) ∈ TB := tb_of 1490 (by decide +kernel) rfl
theorem t_1491 : (Jvm.Cond.static ({ cls := "CanoeSidesModel", name := "byRule", desc := "(II)I" } : Jvm.MethodName)) ∈ TB := tb_of 1491 (by decide +kernel) rfl
theorem t_1492 : (Jvm.Cond.code ({ cls := "CanoeSidesModel", name := "byRule", desc := "(II)I" } : Jvm.MethodName) prog_13_method_74_code (2 : Nat) (Option.some Jvm.ClassFile.FieldType.int)) ∈ TB := tb_of 1492 (by decide +kernel) rfl
theorem t_1501 : (Jvm.Cond.methodLink "CanoeSidesModel" (320 : Nat) ({ cls := "CanoeSidesModel", name := "findFits", desc := "()V" } : Jvm.MethodName)) ∈ TB := tb_of 1501 (by decide +kernel) rfl
theorem t_1503 : (Jvm.Cond.instanceMethod ({ cls := "CanoeSidesModel", name := "findFits", desc := "()V" } : Jvm.MethodName)) ∈ TB := tb_of 1503 (by decide +kernel) rfl
theorem t_1504 : (Jvm.Cond.code ({ cls := "CanoeSidesModel", name := "findFits", desc := "()V" } : Jvm.MethodName) prog_13_method_79_code (4 : Nat) (Option.none : Option Jvm.ClassFile.FieldType)) ∈ TB := tb_of 1504 (by decide +kernel) rfl
theorem t_1505 : (Jvm.Cond.methodLink "CanoeSidesModel" (314 : Nat) ({ cls := "CanoeSidesModel", name := "fitsRow", desc := "(I)Z" } : Jvm.MethodName)) ∈ TB := tb_of 1505 (by decide +kernel) rfl
theorem t_1507 : (Jvm.Cond.instanceMethod ({ cls := "CanoeSidesModel", name := "fitsRow", desc := "(I)Z" } : Jvm.MethodName)) ∈ TB := tb_of 1507 (by decide +kernel) rfl
theorem t_1508 : (Jvm.Cond.code ({ cls := "CanoeSidesModel", name := "fitsRow", desc := "(I)Z" } : Jvm.MethodName) prog_13_method_78_code (6 : Nat) (Option.some Jvm.ClassFile.FieldType.boolean)) ∈ TB := tb_of 1508 (by decide +kernel) rfl
theorem t_1533 : (Jvm.Cond.methodLink "CanoeSidesModel" (323 : Nat) ({ cls := "CanoeSidesModel", name := "copy", desc := "(II)V" } : Jvm.MethodName)) ∈ TB := tb_of 1533 (by decide +kernel) rfl
theorem t_1535 : (Jvm.Cond.instanceMethod ({ cls := "CanoeSidesModel", name := "copy", desc := "(II)V" } : Jvm.MethodName)) ∈ TB := tb_of 1535 (by decide +kernel) rfl
theorem t_1536 : (Jvm.Cond.code ({ cls := "CanoeSidesModel", name := "copy", desc := "(II)V" } : Jvm.MethodName) prog_13_method_86_code (4 : Nat) (Option.none : Option Jvm.ClassFile.FieldType)) ∈ TB := tb_of 1536 (by decide +kernel) rfl
theorem t_1541 : (Jvm.Cond.fieldLink "java/lang/String" (15 : Nat) "java/lang/String" "coder" "B") ∈ TB := tb_of 1541 (by decide +kernel) rfl
theorem t_1542 : (Jvm.Cond.fieldLink "java/lang/String" (9 : Nat) "java/lang/String" "value" "[B") ∈ TB := tb_of 1542 (by decide +kernel) rfl
abbrev WM : Wl := [(100, .inl (11, [some (some 101), some (some 102), some (some 103), some (some 104), some (some 105), none, some (some 106), none, none, none, none, none, none, none, none, some (some 107), none, some (some 108), none, none, some (some 109), some (some 110), none, none, some (some 111), some (some 112), none, none, none, some (some 113), some (some 114), some (some 115), none])), (101, .inr (.inl (0, 12))), (102, .inr (.inl (1, 2))), (103, .inr (.inl (0, 96))), (104, .inr (.inl (0, 24))), (105, .inr (.inl (0, 16))), (106, .inr (.inl (0, 250))), (107, .inr (.inl (0, 150))), (108, .inr (.inl (0, 3456))), (109, .inr (.inl (0, 55296))), (110, .inr (.inl (0, 55296))), (111, .inr (.inl (0, 384))), (112, .inr (.inl (0, 4))), (113, .inr (.inl (0, 2))), (114, .inr (.inl (0, 20))), (115, .inr (.inl (0, 20)))]
theorem nd_M : nd WM = true := by decide +kernel
abbrev WRiver : Wl := [(10, .inl (7, [none, none, some (some 11), none, none, none, none, none, none, none, none, none, some (some 12)])), (11, .inr (.inl (0, 48))), (12, .inr (.inl (0, 8)))]
theorem nd_River : nd WRiver = true := by decide +kernel
abbrev WWaters : Wl := [(15, .inl (9, [some (some 16), some (some 17), none])), (16, .inr (.inl (0, 1920))), (17, .inr (.inl (0, 48)))]
theorem nd_Waters : nd WWaters = true := by decide +kernel
abbrev WWatersR : Wl := [(15, .inl (9, [some (some 16), some (some 17), none])), (16, .inr (.inl (0, 1920))), (17, .inr (.inl (0, 48))), (10, .inl (7, [none, none, some (some 11), none, none, none, none, none, none, none, none, none, some (some 12)])), (11, .inr (.inl (0, 48))), (12, .inr (.inl (0, 8)))]
theorem nd_WatersR : nd WWatersR = true := by decide +kernel
abbrev WCrew : Wl := [(20, .inl (2, [some (some 15), some (some 21), some (some 22)])), (21, .inr (.inl (0, 16))), (22, .inr (.inl (0, 16))), (15, .inl (9, [some (some 16), some (some 17), none])), (16, .inr (.inl (0, 1920))), (17, .inr (.inl (0, 48)))]
theorem nd_Crew : nd WCrew = true := by decide +kernel
abbrev WCrewR : Wl := [(20, .inl (2, [some (some 15), some (some 21), some (some 22)])), (21, .inr (.inl (0, 16))), (22, .inr (.inl (0, 16))), (15, .inl (9, [some (some 16), some (some 17), none])), (16, .inr (.inl (0, 1920))), (17, .inr (.inl (0, 48))), (10, .inl (7, [none, none, some (some 11), none, none, none, none, none, none, none, none, none, some (some 12)])), (11, .inr (.inl (0, 48))), (12, .inr (.inl (0, 8)))]
theorem nd_CrewR : nd WCrewR = true := by decide +kernel
abbrev WBoat : Wl := [(30, .inl (0, [none, none, none]))]
theorem nd_Boat : nd WBoat = true := by decide +kernel
abbrev WBoats : Wl := [(30, .inl (0, [none, none, none])), (31, .inl (0, [none, none, none]))]
theorem nd_Boats : nd WBoats = true := by decide +kernel
abbrev WLog : Wl := [(35, .inl (5, [some (some 36), none, none])), (36, .inr (.inl (0, 50)))]
theorem nd_Log : nd WLog = true := by decide +kernel
abbrev WSearch : Wl := [(40, .inl (8, [some (some 41), some (some 42), some (some 43), none, none, none, none])), (41, .inr (.inl (0, 3456))), (42, .inr (.inl (0, 3456))), (43, .inr (.inl (0, 60))), (10, .inl (7, [none, none, some (some 11), none, none, none, none, none, none, none, none, none, some (some 12)])), (11, .inr (.inl (0, 48))), (12, .inr (.inl (0, 8))), (20, .inl (2, [some (some 15), some (some 21), some (some 22)])), (21, .inr (.inl (0, 16))), (22, .inr (.inl (0, 16))), (15, .inl (9, [some (some 16), some (some 17), none])), (16, .inr (.inl (0, 1920))), (17, .inr (.inl (0, 48)))]
theorem nd_Search : nd WSearch = true := by decide +kernel
abbrev WCalling : Wl := [(45, .inl (1, [some (some 46), some (some 47), some (some 48), some (some 49), none, none, none, none, none])), (46, .inr (.inl (0, 3456))), (47, .inr (.inl (0, 3456))), (48, .inr (.inl (0, 3456))), (49, .inr (.inl (0, 3456))), (10, .inl (7, [none, none, some (some 11), none, none, none, none, none, none, none, none, none, some (some 12)])), (11, .inr (.inl (0, 48))), (12, .inr (.inl (0, 8))), (20, .inl (2, [some (some 15), some (some 21), some (some 22)])), (21, .inr (.inl (0, 16))), (22, .inr (.inl (0, 16))), (15, .inl (9, [some (some 16), some (some 17), none])), (16, .inr (.inl (0, 1920))), (17, .inr (.inl (0, 48)))]
theorem nd_Calling : nd WCalling = true := by decide +kernel
abbrev WGusts : Wl := [(55, .inl (3, [some (some 56), none, none, none])), (56, .inr (.inl (0, 384))), (10, .inl (7, [none, none, some (some 11), none, none, none, none, none, none, none, none, none, some (some 12)])), (11, .inr (.inl (0, 48))), (12, .inr (.inl (0, 8))), (20, .inl (2, [some (some 15), some (some 21), some (some 22)])), (21, .inr (.inl (0, 16))), (22, .inr (.inl (0, 16))), (15, .inl (9, [some (some 16), some (some 17), none])), (16, .inr (.inl (0, 1920))), (17, .inr (.inl (0, 48)))]
theorem nd_Gusts : nd WGusts = true := by decide +kernel
abbrev WLines : Wl := [(60, .inl (4, [some (some 61), some (some 62), some (some 63), some (some 64), none, none])), (61, .inr (.inl (0, 4))), (62, .inr (.inl (0, 40))), (63, .inr (.inl (0, 20))), (64, .inr (.inl (0, 20))), (20, .inl (2, [some (some 15), some (some 21), some (some 22)])), (21, .inr (.inl (0, 16))), (22, .inr (.inl (0, 16))), (15, .inl (9, [some (some 16), some (some 17), none])), (16, .inr (.inl (0, 1920))), (17, .inr (.inl (0, 48)))]
theorem nd_Lines : nd WLines = true := by decide +kernel
abbrev WReader : Wl := [(70, .inl (6, [some (some 2), none, some (some 10), none, none, none, none, none])), (2, .inr (.inl (0, 250))), (10, .inl (7, [none, none, some (some 11), none, none, none, none, none, none, none, none, none, some (some 12)])), (11, .inr (.inl (0, 48))), (12, .inr (.inl (0, 8)))]
theorem nd_Reader : nd WReader = true := by decide +kernel
abbrev WE : Wl := []
theorem nd_E : nd WE = true := by decide +kernel
abbrev WC : Wl := [(0, .inl (10, [some (some 2), none, none, some (some 10), some (some 15), some (some 20), some (some 25), some (some 30), some (some 33), some (some 35), some (some 60), some (some 40), some (some 45), some (some 55)])), (2, .inr (.inl (0, 250))), (10, .inl (7, [none, none, some (some 11), none, none, none, none, none, none, none, none, none, some (some 12)])), (11, .inr (.inl (0, 48))), (12, .inr (.inl (0, 8))), (15, .inl (9, [some (some 16), some (some 17), none])), (16, .inr (.inl (0, 1920))), (17, .inr (.inl (0, 48))), (20, .inl (2, [some (some 15), some (some 21), some (some 22)])), (21, .inr (.inl (0, 16))), (22, .inr (.inl (0, 16))), (25, .inl (2, [some (some 15), some (some 26), some (some 27)])), (26, .inr (.inl (0, 16))), (27, .inr (.inl (0, 16))), (30, .inl (0, [none, none, none])), (33, .inr (.inr (2, 31))), (35, .inl (5, [some (some 36), none, none])), (36, .inr (.inl (0, 50))), (40, .inl (8, [some (some 41), some (some 42), some (some 43), none, none, none, none])), (41, .inr (.inl (0, 3456))), (42, .inr (.inl (0, 3456))), (43, .inr (.inl (0, 60))), (45, .inl (1, [some (some 46), some (some 47), some (some 48), some (some 49), none, none, none, none, none])), (46, .inr (.inl (0, 3456))), (47, .inr (.inl (0, 3456))), (48, .inr (.inl (0, 3456))), (49, .inr (.inl (0, 3456))), (55, .inl (3, [some (some 56), none, none, none])), (56, .inr (.inl (0, 384))), (60, .inl (4, [some (some 61), some (some 62), some (some 63), some (some 64), none, none])), (61, .inr (.inl (0, 4))), (62, .inr (.inl (0, 40))), (63, .inr (.inl (0, 20))), (64, .inr (.inl (0, 20)))]
theorem nd_C : nd WC = true := by decide +kernel
theorem sb_Boat_C : subW WBoat WC = true := by decide +kernel
theorem sb_Calling_C : subW WCalling WC = true := by decide +kernel
theorem sb_Crew_C : subW WCrew WC = true := by decide +kernel
theorem sb_Crew_Calling : subW WCrew WCalling = true := by decide +kernel
theorem sb_Crew_Gusts : subW WCrew WGusts = true := by decide +kernel
theorem sb_Crew_Lines : subW WCrew WLines = true := by decide +kernel
theorem sb_Crew_Search : subW WCrew WSearch = true := by decide +kernel
theorem sb_E_C : subW WE WC = true := by decide +kernel
theorem sb_E_CrewR : subW WE WCrewR = true := by decide +kernel
theorem sb_E_Lines : subW WE WLines = true := by decide +kernel
theorem sb_E_Log : subW WE WLog = true := by decide +kernel
theorem sb_E_M : subW WE WM = true := by decide +kernel
theorem sb_E_Reader : subW WE WReader = true := by decide +kernel
theorem sb_E_River : subW WE WRiver = true := by decide +kernel
theorem sb_Gusts_C : subW WGusts WC = true := by decide +kernel
theorem sb_Lines_C : subW WLines WC = true := by decide +kernel
theorem sb_Log_C : subW WLog WC = true := by decide +kernel
theorem sb_River_C : subW WRiver WC = true := by decide +kernel
theorem sb_River_Calling : subW WRiver WCalling = true := by decide +kernel
theorem sb_River_Gusts : subW WRiver WGusts = true := by decide +kernel
theorem sb_River_Reader : subW WRiver WReader = true := by decide +kernel
theorem sb_River_Search : subW WRiver WSearch = true := by decide +kernel
theorem sb_River_WatersR : subW WRiver WWatersR = true := by decide +kernel
theorem sb_Search_C : subW WSearch WC = true := by decide +kernel
theorem sb_Waters_C : subW WWaters WC = true := by decide +kernel
theorem sb_Waters_Crew : subW WWaters WCrew = true := by decide +kernel
theorem sb_Waters_Gusts : subW WWaters WGusts = true := by decide +kernel
theorem sb_Waters_Lines : subW WWaters WLines = true := by decide +kernel
theorem CI_0 : ∀ w ∈ u_ws RX0 TX0 3, w ∈ TB := by
  intro w hw
  obtain ⟨k, hk, rfl⟩ := List.mem_map.mp hw
  have hk := List.mem_range.mp hk
  match k, hk with
  | 0, _ => exact t_240
  | 1, _ => exact t_242
  | 2, _ => exact t_244
  | k + 3, hk => omega
theorem CK_0 : classes[0]? = some (RX0, TX0, 3) ∧ ∀ w ∈ u_ws RX0 TX0 3, w ∈ TB := ⟨rfl, CI_0⟩
theorem CT_0 : (∀ k, k < 3 → parseFieldDescriptor (TX0 k).2.2.1 = some (tyX0 k)) ∧ ∀ a, a < 3 → ∀ b, b < 3 → a ≠ b → (TX0 a).2.1 ≠ (TX0 b).2.1 := ⟨tyX0_ok, nmX0⟩
theorem CI_1 : ∀ w ∈ u_ws RX1 TX1 9, w ∈ TB := by
  intro w hw
  obtain ⟨k, hk, rfl⟩ := List.mem_map.mp hw
  have hk := List.mem_range.mp hk
  match k, hk with
  | 0, _ => exact t_338
  | 1, _ => exact t_340
  | 2, _ => exact t_342
  | 3, _ => exact t_344
  | 4, _ => exact t_346
  | 5, _ => exact t_348
  | 6, _ => exact t_350
  | 7, _ => exact t_352
  | 8, _ => exact t_354
  | k + 9, hk => omega
theorem CK_1 : classes[1]? = some (RX1, TX1, 9) ∧ ∀ w ∈ u_ws RX1 TX1 9, w ∈ TB := ⟨rfl, CI_1⟩
theorem CT_1 : (∀ k, k < 9 → parseFieldDescriptor (TX1 k).2.2.1 = some (tyX1 k)) ∧ ∀ a, a < 9 → ∀ b, b < 9 → a ≠ b → (TX1 a).2.1 ≠ (TX1 b).2.1 := ⟨tyX1_ok, nmX1⟩
theorem CI_2 : ∀ w ∈ u_ws RX2 TX2 3, w ∈ TB := by
  intro w hw
  obtain ⟨k, hk, rfl⟩ := List.mem_map.mp hw
  have hk := List.mem_range.mp hk
  match k, hk with
  | 0, _ => exact t_221
  | 1, _ => exact t_223
  | 2, _ => exact t_225
  | k + 3, hk => omega
theorem CK_2 : classes[2]? = some (RX2, TX2, 3) ∧ ∀ w ∈ u_ws RX2 TX2 3, w ∈ TB := ⟨rfl, CI_2⟩
theorem CT_2 : (∀ k, k < 3 → parseFieldDescriptor (TX2 k).2.2.1 = some (tyX2 k)) ∧ ∀ a, a < 3 → ∀ b, b < 3 → a ≠ b → (TX2 a).2.1 ≠ (TX2 b).2.1 := ⟨tyX2_ok, nmX2⟩
theorem CI_3 : ∀ w ∈ u_ws RX3 TX3 4, w ∈ TB := by
  intro w hw
  obtain ⟨k, hk, rfl⟩ := List.mem_map.mp hw
  have hk := List.mem_range.mp hk
  match k, hk with
  | 0, _ => exact t_369
  | 1, _ => exact t_371
  | 2, _ => exact t_373
  | 3, _ => exact t_375
  | k + 4, hk => omega
theorem CK_3 : classes[3]? = some (RX3, TX3, 4) ∧ ∀ w ∈ u_ws RX3 TX3 4, w ∈ TB := ⟨rfl, CI_3⟩
theorem CT_3 : (∀ k, k < 4 → parseFieldDescriptor (TX3 k).2.2.1 = some (tyX3 k)) ∧ ∀ a, a < 4 → ∀ b, b < 4 → a ≠ b → (TX3 a).2.1 ≠ (TX3 b).2.1 := ⟨tyX3_ok, nmX3⟩
theorem CI_4 : ∀ w ∈ u_ws RX4 TX4 6, w ∈ TB := by
  intro w hw
  obtain ⟨k, hk, rfl⟩ := List.mem_map.mp hw
  have hk := List.mem_range.mp hk
  match k, hk with
  | 0, _ => exact t_279
  | 1, _ => exact t_281
  | 2, _ => exact t_283
  | 3, _ => exact t_285
  | 4, _ => exact t_287
  | 5, _ => exact t_289
  | k + 6, hk => omega
theorem CK_4 : classes[4]? = some (RX4, TX4, 6) ∧ ∀ w ∈ u_ws RX4 TX4 6, w ∈ TB := ⟨rfl, CI_4⟩
theorem CT_4 : (∀ k, k < 6 → parseFieldDescriptor (TX4 k).2.2.1 = some (tyX4 k)) ∧ ∀ a, a < 6 → ∀ b, b < 6 → a ≠ b → (TX4 a).2.1 ≠ (TX4 b).2.1 := ⟨tyX4_ok, nmX4⟩
theorem CI_5 : ∀ w ∈ u_ws RX5 TX5 3, w ∈ TB := by
  intro w hw
  obtain ⟨k, hk, rfl⟩ := List.mem_map.mp hw
  have hk := List.mem_range.mp hk
  match k, hk with
  | 0, _ => exact t_258
  | 1, _ => exact t_260
  | 2, _ => exact t_262
  | k + 3, hk => omega
theorem CK_5 : classes[5]? = some (RX5, TX5, 3) ∧ ∀ w ∈ u_ws RX5 TX5 3, w ∈ TB := ⟨rfl, CI_5⟩
theorem CT_5 : (∀ k, k < 3 → parseFieldDescriptor (TX5 k).2.2.1 = some (tyX5 k)) ∧ ∀ a, a < 3 → ∀ b, b < 3 → a ≠ b → (TX5 a).2.1 ≠ (TX5 b).2.1 := ⟨tyX5_ok, nmX5⟩
theorem CI_6 : ∀ w ∈ u_ws RX6 TX6 8, w ∈ TB := by
  intro w hw
  obtain ⟨k, hk, rfl⟩ := List.mem_map.mp hw
  have hk := List.mem_range.mp hk
  match k, hk with
  | 0, _ => exact t_528
  | 1, _ => exact t_530
  | 2, _ => exact t_532
  | 3, _ => exact t_534
  | 4, _ => exact t_536
  | 5, _ => exact t_538
  | 6, _ => exact t_540
  | 7, _ => exact t_542
  | k + 8, hk => omega
theorem CK_6 : classes[6]? = some (RX6, TX6, 8) ∧ ∀ w ∈ u_ws RX6 TX6 8, w ∈ TB := ⟨rfl, CI_6⟩
theorem CT_6 : (∀ k, k < 8 → parseFieldDescriptor (TX6 k).2.2.1 = some (tyX6 k)) ∧ ∀ a, a < 8 → ∀ b, b < 8 → a ≠ b → (TX6 a).2.1 ≠ (TX6 b).2.1 := ⟨tyX6_ok, nmX6⟩
theorem CI_7 : ∀ w ∈ u_ws RX7 TX7 13, w ∈ TB := by
  intro w hw
  obtain ⟨k, hk, rfl⟩ := List.mem_map.mp hw
  have hk := List.mem_range.mp hk
  match k, hk with
  | 0, _ => exact t_166
  | 1, _ => exact t_168
  | 2, _ => exact t_170
  | 3, _ => exact t_172
  | 4, _ => exact t_174
  | 5, _ => exact t_176
  | 6, _ => exact t_178
  | 7, _ => exact t_180
  | 8, _ => exact t_182
  | 9, _ => exact t_184
  | 10, _ => exact t_186
  | 11, _ => exact t_188
  | 12, _ => exact t_190
  | k + 13, hk => omega
theorem CK_7 : classes[7]? = some (RX7, TX7, 13) ∧ ∀ w ∈ u_ws RX7 TX7 13, w ∈ TB := ⟨rfl, CI_7⟩
theorem CT_7 : (∀ k, k < 13 → parseFieldDescriptor (TX7 k).2.2.1 = some (tyX7 k)) ∧ ∀ a, a < 13 → ∀ b, b < 13 → a ≠ b → (TX7 a).2.1 ≠ (TX7 b).2.1 := ⟨tyX7_ok, nmX7⟩
theorem CI_8 : ∀ w ∈ u_ws RX8 TX8 7, w ∈ TB := by
  intro w hw
  obtain ⟨k, hk, rfl⟩ := List.mem_map.mp hw
  have hk := List.mem_range.mp hk
  match k, hk with
  | 0, _ => exact t_306
  | 1, _ => exact t_308
  | 2, _ => exact t_310
  | 3, _ => exact t_312
  | 4, _ => exact t_314
  | 5, _ => exact t_316
  | 6, _ => exact t_318
  | k + 7, hk => omega
theorem CK_8 : classes[8]? = some (RX8, TX8, 7) ∧ ∀ w ∈ u_ws RX8 TX8 7, w ∈ TB := ⟨rfl, CI_8⟩
theorem CT_8 : (∀ k, k < 7 → parseFieldDescriptor (TX8 k).2.2.1 = some (tyX8 k)) ∧ ∀ a, a < 7 → ∀ b, b < 7 → a ≠ b → (TX8 a).2.1 ≠ (TX8 b).2.1 := ⟨tyX8_ok, nmX8⟩
theorem CI_9 : ∀ w ∈ u_ws RX9 TX9 3, w ∈ TB := by
  intro w hw
  obtain ⟨k, hk, rfl⟩ := List.mem_map.mp hw
  have hk := List.mem_range.mp hk
  match k, hk with
  | 0, _ => exact t_203
  | 1, _ => exact t_205
  | 2, _ => exact t_207
  | k + 3, hk => omega
theorem CK_9 : classes[9]? = some (RX9, TX9, 3) ∧ ∀ w ∈ u_ws RX9 TX9 3, w ∈ TB := ⟨rfl, CI_9⟩
theorem CT_9 : (∀ k, k < 3 → parseFieldDescriptor (TX9 k).2.2.1 = some (tyX9 k)) ∧ ∀ a, a < 3 → ∀ b, b < 3 → a ≠ b → (TX9 a).2.1 ≠ (TX9 b).2.1 := ⟨tyX9_ok, nmX9⟩
theorem CI_10 : ∀ w ∈ u_ws RX10 TX10 14, w ∈ TB := by
  intro w hw
  obtain ⟨k, hk, rfl⟩ := List.mem_map.mp hw
  have hk := List.mem_range.mp hk
  match k, hk with
  | 0, _ => exact t_466
  | 1, _ => exact t_468
  | 2, _ => exact t_470
  | 3, _ => exact t_472
  | 4, _ => exact t_474
  | 5, _ => exact t_476
  | 6, _ => exact t_478
  | 7, _ => exact t_480
  | 8, _ => exact t_482
  | 9, _ => exact t_484
  | 10, _ => exact t_486
  | 11, _ => exact t_488
  | 12, _ => exact t_490
  | 13, _ => exact t_492
  | k + 14, hk => omega
theorem CK_10 : classes[10]? = some (RX10, TX10, 14) ∧ ∀ w ∈ u_ws RX10 TX10 14, w ∈ TB := ⟨rfl, CI_10⟩
theorem CT_10 : (∀ k, k < 14 → parseFieldDescriptor (TX10 k).2.2.1 = some (tyX10 k)) ∧ ∀ a, a < 14 → ∀ b, b < 14 → a ≠ b → (TX10 a).2.1 ≠ (TX10 b).2.1 := ⟨tyX10_ok, nmX10⟩
theorem CI_11 : ∀ w ∈ u_ws RX11 TX11 33, w ∈ TB := by
  intro w hw
  obtain ⟨k, hk, rfl⟩ := List.mem_map.mp hw
  have hk := List.mem_range.mp hk
  match k, hk with
  | 0, _ => exact t_1123
  | 1, _ => exact t_1125
  | 2, _ => exact t_1127
  | 3, _ => exact t_1129
  | 4, _ => exact t_1131
  | 5, _ => exact t_1133
  | 6, _ => exact t_1135
  | 7, _ => exact t_1137
  | 8, _ => exact t_1139
  | 9, _ => exact t_1141
  | 10, _ => exact t_1143
  | 11, _ => exact t_1145
  | 12, _ => exact t_1147
  | 13, _ => exact t_1149
  | 14, _ => exact t_1151
  | 15, _ => exact t_1153
  | 16, _ => exact t_1155
  | 17, _ => exact t_1157
  | 18, _ => exact t_1159
  | 19, _ => exact t_1161
  | 20, _ => exact t_1163
  | 21, _ => exact t_1165
  | 22, _ => exact t_1167
  | 23, _ => exact t_1169
  | 24, _ => exact t_1171
  | 25, _ => exact t_1173
  | 26, _ => exact t_1175
  | 27, _ => exact t_1177
  | 28, _ => exact t_1179
  | 29, _ => exact t_1181
  | 30, _ => exact t_1183
  | 31, _ => exact t_1185
  | 32, _ => exact t_1187
  | k + 33, hk => omega
theorem CK_11 : classes[11]? = some (RX11, TX11, 33) ∧ ∀ w ∈ u_ws RX11 TX11 33, w ∈ TB := ⟨rfl, CI_11⟩
theorem CT_11 : (∀ k, k < 33 → parseFieldDescriptor (TX11 k).2.2.1 = some (tyX11 k)) ∧ ∀ a, a < 33 → ∀ b, b < 33 → a ≠ b → (TX11 a).2.1 ≠ (TX11 b).2.1 := ⟨tyX11_ok, nmX11⟩
