def wsA : List Cond := lw_tbl.filter goodWord
theorem wA_of {w : Cond} (i : Nat) (h : lw_tbl[i]? = some w) (hg : goodWord w = true) : w ∈ wsA := List.mem_filter.mpr ⟨List.mem_of_getElem? h, hg⟩
theorem wA_in : ∀ w ∈ wsA, w ∈ lw_tbl := fun _ h => (List.mem_filter.mp h).1
theorem wA_good : ∀ w ∈ wsA, ((w.onTables && w.keeps) = true ∨ ∃ ty, w = .arrayClass ty) := fun _ h => good_of_word (List.mem_filter.mp h).2
abbrev wsM (y : MethodName) (c : ByteArray) (n : Nat) (r : Option FieldType) : List Cond := Cond.code y c n r :: wsA
theorem wA_ps (ws : List Cond) (ps : List Nat) (hp : ws = ps.filterMap (fun i => lw_tbl[i]?)) (h : ws.all goodWord = true) : ∀ w ∈ ws, w ∈ wsA := by
  intro w hw
  have h1 := List.all_eq_true.mp h w hw
  rw [hp] at hw
  obtain ⟨i, -, hi⟩ := List.mem_filterMap.mp hw
  exact wA_of i hi h1
theorem wgM {y : MethodName} {c : ByteArray} {n : Nat} {r : Option FieldType} (h : Cond.code y c n r ∈ wsA) : GoodIn wsA (wsM y c n r) := fun w hw => by
  rcases List.mem_cons.mp hw with e | e
  · subst e
    exact ⟨h, wA_good _ h⟩
  · exact ⟨e, wA_good _ e⟩
theorem wg4 {a b c d : Cond} {ws : List Cond} (ha : a ∈ wsA) (hb : b ∈ wsA) (hc : c ∈ wsA) (hd : d ∈ wsA) (h : GoodIn wsA ws) : GoodIn wsA ([a, b, c, d] ++ ws) := fun w hw => by
  rcases List.mem_append.mp hw with e | e
  · simp only [List.mem_cons, List.not_mem_nil, or_false] at e
    rcases e with e | e | e | e <;> subst e
    · exact ⟨ha, wA_good _ ha⟩
    · exact ⟨hb, wA_good _ hb⟩
    · exact ⟨hc, wA_good _ hc⟩
    · exact ⟨hd, wA_good _ hd⟩
  · exact h w e
theorem wg3 {a b c : Cond} {ws : List Cond} (ha : a ∈ wsA) (hb : b ∈ wsA) (hc : c ∈ wsA) (h : GoodIn wsA ws) : GoodIn wsA ([a, b, c] ++ ws) := fun w hw => by
  rcases List.mem_append.mp hw with e | e
  · simp only [List.mem_cons, List.not_mem_nil, or_false] at e
    rcases e with e | e | e <;> subst e
    · exact ⟨ha, wA_good _ ha⟩
    · exact ⟨hb, wA_good _ hb⟩
    · exact ⟨hc, wA_good _ hc⟩
  · exact h w e
theorem wgV {own C : String} {idx n : Nat} {y : MethodName} {c : ByteArray} {r : Option FieldType} (h1 : Cond.methodLink own idx y ∈ wsA) (h2 : Cond.instanceMethod y ∈ wsA) (h3 : Cond.selects C y y ∈ wsA) (h4 : Cond.initialized C ∈ wsA) (h5 : Cond.code y c n r ∈ wsA) : GoodIn wsA (wsV own idx C y (wsM y c n r)) := wg4 h1 h2 h3 h4 (wgM h5)
theorem wgS {own : String} {idx n : Nat} {y : MethodName} {c : ByteArray} {r : Option FieldType} (h1 : Cond.methodLink own idx y ∈ wsA) (h2 : Cond.static y ∈ wsA) (h4 : Cond.initialized y.cls ∈ wsA) (h5 : Cond.code y c n r ∈ wsA) : GoodIn wsA (va_wsS own idx y (wsM y c n r)) := wg3 h1 h2 h4 (wgM h5)
set_option maxRecDepth 20000 in
theorem wA_0 : (Cond.selects RX9 yX9_refuse yX9_refuse : Cond) ∈ wsA := wA_of 0 (by decide +kernel) rfl
set_option maxRecDepth 20000 in
theorem wA_1 : (Cond.selects RX9 yX9_formOfLetters yX9_formOfLetters : Cond) ∈ wsA := wA_of 1 (by decide +kernel) rfl
set_option maxRecDepth 20000 in
theorem wA_2 : (Cond.selects RX7 yX7_readNumber yX7_readNumber : Cond) ∈ wsA := wA_of 2 (by decide +kernel) rfl
set_option maxRecDepth 20000 in
theorem wA_3 : (Cond.selects RX7 yX7_readSign yX7_readSign : Cond) ∈ wsA := wA_of 3 (by decide +kernel) rfl
set_option maxRecDepth 20000 in
theorem wA_4 : (Cond.selects RX9 yX9_takeLetters yX9_takeLetters : Cond) ∈ wsA := wA_of 4 (by decide +kernel) rfl
set_option maxRecDepth 20000 in
theorem wA_5 : (Cond.selects RX5 yX5_addLamp yX5_addLamp : Cond) ∈ wsA := wA_of 5 (by decide +kernel) rfl
set_option maxRecDepth 20000 in
theorem wA_6 : (Cond.selects RX5 yX5_takeSetting yX5_takeSetting : Cond) ∈ wsA := wA_of 6 (by decide +kernel) rfl
set_option maxRecDepth 20000 in
theorem wA_7 : (Cond.selects RX5 yX5_takeCondition yX5_takeCondition : Cond) ∈ wsA := wA_of 7 (by decide +kernel) rfl
set_option maxRecDepth 20000 in
theorem wA_8 : (Cond.selects RX6 yX6_fill yX6_fill : Cond) ∈ wsA := wA_of 8 (by decide +kernel) rfl
set_option maxRecDepth 20000 in
theorem wA_9 : (Cond.selects RX6 yX6_leastOf yX6_leastOf : Cond) ∈ wsA := wA_of 9 (by decide +kernel) rfl
set_option maxRecDepth 20000 in
theorem wA_10 : (Cond.selects RX6 yX6_costOf yX6_costOf : Cond) ∈ wsA := wA_of 10 (by decide +kernel) rfl
set_option maxRecDepth 20000 in
theorem wA_11 : (Cond.selects RX4 yX4_firstGone yX4_firstGone : Cond) ∈ wsA := wA_of 11 (by decide +kernel) rfl
set_option maxRecDepth 20000 in
theorem wA_12 : (Cond.selects RX4 yX4_staysLive yX4_staysLive : Cond) ∈ wsA := wA_of 12 (by decide +kernel) rfl
set_option maxRecDepth 20000 in
theorem wA_13 : (Cond.selects RX9 yX9_refusalsOf yX9_refusalsOf : Cond) ∈ wsA := wA_of 13 (by decide +kernel) rfl
set_option maxRecDepth 20000 in
theorem wA_14 : (Cond.selects RX10 yX10_no yX10_no : Cond) ∈ wsA := wA_of 14 (by decide +kernel) rfl
set_option maxRecDepth 20000 in
theorem wA_15 : (Cond.selects RX10 yX10_statement yX10_statement : Cond) ∈ wsA := wA_of 15 (by decide +kernel) rfl
set_option maxRecDepth 20000 in
theorem wA_16 : (Cond.selects RX10 yX10_nextLetter yX10_nextLetter : Cond) ∈ wsA := wA_of 16 (by decide +kernel) rfl
set_option maxRecDepth 20000 in
theorem wA_17 : (Cond.selects RX10 yX10_reads yX10_reads : Cond) ∈ wsA := wA_of 17 (by decide +kernel) rfl
set_option maxRecDepth 20000 in
theorem wA_18 : (Cond.selects RX10 yX10_isNext yX10_isNext : Cond) ∈ wsA := wA_of 18 (by decide +kernel) rfl
set_option maxRecDepth 20000 in
theorem wA_19 : (Cond.selects RX10 yX10_passesAll yX10_passesAll : Cond) ∈ wsA := wA_of 19 (by decide +kernel) rfl
set_option maxRecDepth 20000 in
theorem wA_20 : (Cond.selects RX10 yX10_passes yX10_passes : Cond) ∈ wsA := wA_of 20 (by decide +kernel) rfl
set_option maxRecDepth 20000 in
theorem wA_21 : (Cond.selects RX10 yX10_passOne yX10_passOne : Cond) ∈ wsA := wA_of 21 (by decide +kernel) rfl
set_option maxRecDepth 20000 in
theorem wA_22 : (Cond.selects RX10 yX10_comes yX10_comes : Cond) ∈ wsA := wA_of 22 (by decide +kernel) rfl
set_option maxRecDepth 20000 in
theorem wA_23 : (Cond.selects RX10 yX10_comesLamp yX10_comesLamp : Cond) ∈ wsA := wA_of 23 (by decide +kernel) rfl
set_option maxRecDepth 20000 in
theorem wA_24 : (Cond.selects RX10 yX10_isLamp yX10_isLamp : Cond) ∈ wsA := wA_of 24 (by decide +kernel) rfl
set_option maxRecDepth 20000 in
theorem wA_25 : (Cond.selects RX10 yX10_dragOf yX10_dragOf : Cond) ∈ wsA := wA_of 25 (by decide +kernel) rfl
set_option maxRecDepth 20000 in
theorem wA_26 : (Cond.selects RX10 yX10_flowNow yX10_flowNow : Cond) ∈ wsA := wA_of 26 (by decide +kernel) rfl
set_option maxRecDepth 20000 in
theorem wA_27 : (Cond.selects RX10 yX10_isLive yX10_isLive : Cond) ∈ wsA := wA_of 27 (by decide +kernel) rfl
set_option maxRecDepth 20000 in
theorem wA_28 : (Cond.selects RX10 yX10_isWhole yX10_isWhole : Cond) ∈ wsA := wA_of 28 (by decide +kernel) rfl
set_option maxRecDepth 20000 in
theorem wA_29 : (Cond.selects RX10 yX10_drags yX10_drags : Cond) ∈ wsA := wA_of 29 (by decide +kernel) rfl
set_option maxRecDepth 20000 in
theorem wA_30 : (Cond.selects RX10 yX10_brightBy yX10_brightBy : Cond) ∈ wsA := wA_of 30 (by decide +kernel) rfl
set_option maxRecDepth 20000 in
theorem wA_31 : (Cond.selects RX10 yX10_likelyOf yX10_likelyOf : Cond) ∈ wsA := wA_of 31 (by decide +kernel) rfl
set_option maxRecDepth 20000 in
theorem wA_32 : (Cond.selects RX10 yX10_doesBridge yX10_doesBridge : Cond) ∈ wsA := wA_of 32 (by decide +kernel) rfl
set_option maxRecDepth 20000 in
theorem wA_33 : (Cond.selects RX10 yX10_isLoose yX10_isLoose : Cond) ∈ wsA := wA_of 33 (by decide +kernel) rfl
set_option maxRecDepth 20000 in
theorem wA_34 : (Cond.selects RX10 yX10_goesHour yX10_goesHour : Cond) ∈ wsA := wA_of 34 (by decide +kernel) rfl
set_option maxRecDepth 20000 in
theorem wA_35 : (Cond.selects RX10 yX10_doesDie yX10_doesDie : Cond) ∈ wsA := wA_of 35 (by decide +kernel) rfl
set_option maxRecDepth 20000 in
theorem wA_36 : (Cond.selects RX10 yX10_doesHang yX10_doesHang : Cond) ∈ wsA := wA_of 36 (by decide +kernel) rfl
set_option maxRecDepth 20000 in
theorem wA_37 : (Cond.selects RX10 yX10_putsAnew yX10_putsAnew : Cond) ∈ wsA := wA_of 37 (by decide +kernel) rfl
set_option maxRecDepth 20000 in
theorem wA_38 : (Cond.selects RX10 yX10_areLamps yX10_areLamps : Cond) ∈ wsA := wA_of 38 (by decide +kernel) rfl
set_option maxRecDepth 20000 in
theorem wA_39 : (Cond.selects RX10 yX10_touches yX10_touches : Cond) ∈ wsA := wA_of 39 (by decide +kernel) rfl
set_option maxRecDepth 20000 in
theorem wA_40 : (Cond.selects RX10 yX10_findStretches yX10_findStretches : Cond) ∈ wsA := wA_of 40 (by decide +kernel) rfl
set_option maxRecDepth 20000 in
theorem wA_41 : (Cond.selects RX10 yX10_findStretch yX10_findStretch : Cond) ∈ wsA := wA_of 41 (by decide +kernel) rfl
set_option maxRecDepth 20000 in
theorem wA_42 : (Cond.selects RX10 yX10_weightOf yX10_weightOf : Cond) ∈ wsA := wA_of 42 (by decide +kernel) rfl
set_option maxRecDepth 20000 in
theorem wA_43 : (Cond.selects RX10 yX10_findOrder yX10_findOrder : Cond) ∈ wsA := wA_of 43 (by decide +kernel) rfl
set_option maxRecDepth 20000 in
theorem wA_44 : (Cond.selects RX10 yX10_openBy yX10_openBy : Cond) ∈ wsA := wA_of 44 (by decide +kernel) rfl
set_option maxRecDepth 20000 in
theorem wA_45 : (Cond.selects RX10 yX10_findNext yX10_findNext : Cond) ∈ wsA := wA_of 45 (by decide +kernel) rfl
set_option maxRecDepth 20000 in
theorem wA_46 : (Cond.selects RX10 yX10_stateMany yX10_stateMany : Cond) ∈ wsA := wA_of 46 (by decide +kernel) rfl
set_option maxRecDepth 20000 in
theorem wA_47 : (Cond.selects RX10 yX10_isLiveBy yX10_isLiveBy : Cond) ∈ wsA := wA_of 47 (by decide +kernel) rfl
set_option maxRecDepth 20000 in
theorem wA_48 : (Cond.selects RX10 yX10_lowest yX10_lowest : Cond) ∈ wsA := wA_of 48 (by decide +kernel) rfl
set_option maxRecDepth 20000 in
theorem wA_50 : (Cond.initialized RX9 : Cond) ∈ wsA := wA_of 50 (by decide +kernel) rfl
set_option maxRecDepth 20000 in
theorem wA_51 : (Cond.initialized RX5 : Cond) ∈ wsA := wA_of 51 (by decide +kernel) rfl
set_option maxRecDepth 20000 in
theorem wA_52 : (Cond.initialized RX1 : Cond) ∈ wsA := wA_of 52 (by decide +kernel) rfl
set_option maxRecDepth 20000 in
theorem wA_53 : (Cond.initialized RX4 : Cond) ∈ wsA := wA_of 53 (by decide +kernel) rfl
set_option maxRecDepth 20000 in
theorem wA_54 : (Cond.initialized RX2 : Cond) ∈ wsA := wA_of 54 (by decide +kernel) rfl
set_option maxRecDepth 20000 in
theorem wA_55 : (Cond.initialized RX7 : Cond) ∈ wsA := wA_of 55 (by decide +kernel) rfl
set_option maxRecDepth 20000 in
theorem wA_56 : (Cond.initialized RX3 : Cond) ∈ wsA := wA_of 56 (by decide +kernel) rfl
set_option maxRecDepth 20000 in
theorem wA_57 : (Cond.initialized RX6 : Cond) ∈ wsA := wA_of 57 (by decide +kernel) rfl
set_option maxRecDepth 20000 in
theorem wA_58 : (Cond.initialized RX8 : Cond) ∈ wsA := wA_of 58 (by decide +kernel) rfl
set_option maxRecDepth 20000 in
theorem wA_59 : (Cond.initialized RX10 : Cond) ∈ wsA := wA_of 59 (by decide +kernel) rfl
set_option maxRecDepth 20000 in
theorem wA_60 : (Cond.initialized "java/lang/Math" : Cond) ∈ wsA := wA_of 60 (by decide +kernel) rfl
set_option maxRecDepth 20000 in
theorem wA_61 : (Cond.initialized RX0 : Cond) ∈ wsA := wA_of 61 (by decide +kernel) rfl
set_option maxRecDepth 20000 in
theorem wA_83 : (Cond.fieldLink RX1 9 "OneLampAllOut$Lamp" "kind" "I" : Cond) ∈ wsA := wA_of 83 (by decide +kernel) rfl
set_option maxRecDepth 20000 in
theorem wA_84 : (Cond.fieldLink RX9 101 "OneLampAllOut$Lamp" "kind" "I" : Cond) ∈ wsA := wA_of 84 (by decide +kernel) rfl
set_option maxRecDepth 20000 in
theorem wA_85 : (Cond.fieldLink RX1 15 "OneLampAllOut$Lamp" "life" "I" : Cond) ∈ wsA := wA_of 85 (by decide +kernel) rfl
set_option maxRecDepth 20000 in
theorem wA_86 : (Cond.fieldLink RX9 106 "OneLampAllOut$Lamp" "life" "I" : Cond) ∈ wsA := wA_of 86 (by decide +kernel) rfl
set_option maxRecDepth 20000 in
theorem wA_87 : (Cond.fieldLink RX1 18 "OneLampAllOut$Lamp" "minutes" "I" : Cond) ∈ wsA := wA_of 87 (by decide +kernel) rfl
set_option maxRecDepth 20000 in
theorem wA_88 : (Cond.fieldLink RX8 29 "OneLampAllOut$Lamp" "minutes" "I" : Cond) ∈ wsA := wA_of 88 (by decide +kernel) rfl
set_option maxRecDepth 20000 in
theorem wA_89 : (Cond.fieldLink RX9 109 "OneLampAllOut$Lamp" "minutes" "I" : Cond) ∈ wsA := wA_of 89 (by decide +kernel) rfl
set_option maxRecDepth 20000 in
theorem wA_90 : (Cond.fieldLink RX6 51 "OneLampAllOut$Lamp" "minutes" "I" : Cond) ∈ wsA := wA_of 90 (by decide +kernel) rfl
set_option maxRecDepth 20000 in
theorem wA_91 : (Cond.fieldLink RX1 24 "OneLampAllOut$Lamp" "hurt" "I" : Cond) ∈ wsA := wA_of 91 (by decide +kernel) rfl
set_option maxRecDepth 20000 in
theorem wA_92 : (Cond.fieldLink RX9 112 "OneLampAllOut$Lamp" "hurt" "I" : Cond) ∈ wsA := wA_of 92 (by decide +kernel) rfl
set_option maxRecDepth 20000 in
theorem wA_93 : (Cond.fieldLink RX5 75 "OneLampAllOut$Lamp" "hurt" "I" : Cond) ∈ wsA := wA_of 93 (by decide +kernel) rfl
set_option maxRecDepth 20000 in
theorem wA_94 : (Cond.fieldLink RX1 27 "OneLampAllOut$Lamp" "condition" "I" : Cond) ∈ wsA := wA_of 94 (by decide +kernel) rfl
set_option maxRecDepth 20000 in
theorem wA_95 : (Cond.fieldLink RX9 115 "OneLampAllOut$Lamp" "condition" "I" : Cond) ∈ wsA := wA_of 95 (by decide +kernel) rfl
set_option maxRecDepth 20000 in
theorem wA_96 : (Cond.fieldLink RX5 72 "OneLampAllOut$Lamp" "condition" "I" : Cond) ∈ wsA := wA_of 96 (by decide +kernel) rfl
set_option maxRecDepth 20000 in
theorem wA_109 : (Cond.fieldLink RX5 11 "OneLampAllOut$Row" "lamps" "[LOneLampAllOut$Lamp;" : Cond) ∈ wsA := wA_of 109 (by decide +kernel) rfl
set_option maxRecDepth 20000 in
theorem wA_110 : (Cond.fieldLink RX8 21 "OneLampAllOut$Row" "lamps" "[LOneLampAllOut$Lamp;" : Cond) ∈ wsA := wA_of 110 (by decide +kernel) rfl
set_option maxRecDepth 20000 in
theorem wA_111 : (Cond.fieldLink RX0 15 "OneLampAllOut$Row" "lamps" "[LOneLampAllOut$Lamp;" : Cond) ∈ wsA := wA_of 111 (by decide +kernel) rfl
set_option maxRecDepth 20000 in
theorem wA_112 : (Cond.fieldLink RX9 97 "OneLampAllOut$Row" "lamps" "[LOneLampAllOut$Lamp;" : Cond) ∈ wsA := wA_of 112 (by decide +kernel) rfl
set_option maxRecDepth 20000 in
theorem wA_113 : (Cond.fieldLink RX4 42 "OneLampAllOut$Row" "lamps" "[LOneLampAllOut$Lamp;" : Cond) ∈ wsA := wA_of 113 (by decide +kernel) rfl
set_option maxRecDepth 20000 in
theorem wA_114 : (Cond.fieldLink RX6 47 "OneLampAllOut$Row" "lamps" "[LOneLampAllOut$Lamp;" : Cond) ∈ wsA := wA_of 114 (by decide +kernel) rfl
set_option maxRecDepth 20000 in
theorem wA_115 : (Cond.fieldLink RX5 17 "OneLampAllOut$Row" "settings" "[I" : Cond) ∈ wsA := wA_of 115 (by decide +kernel) rfl
set_option maxRecDepth 20000 in
theorem wA_116 : (Cond.fieldLink RX9 136 "OneLampAllOut$Row" "settings" "[I" : Cond) ∈ wsA := wA_of 116 (by decide +kernel) rfl
set_option maxRecDepth 20000 in
theorem wA_117 : (Cond.fieldLink RX5 22 "OneLampAllOut$Row" "size" "I" : Cond) ∈ wsA := wA_of 117 (by decide +kernel) rfl
set_option maxRecDepth 20000 in
theorem wA_118 : (Cond.fieldLink RX8 15 "OneLampAllOut$Row" "size" "I" : Cond) ∈ wsA := wA_of 118 (by decide +kernel) rfl
set_option maxRecDepth 20000 in
theorem wA_119 : (Cond.fieldLink RX0 9 "OneLampAllOut$Row" "size" "I" : Cond) ∈ wsA := wA_of 119 (by decide +kernel) rfl
set_option maxRecDepth 20000 in
theorem wA_120 : (Cond.fieldLink RX4 38 "OneLampAllOut$Row" "size" "I" : Cond) ∈ wsA := wA_of 120 (by decide +kernel) rfl
set_option maxRecDepth 20000 in
theorem wA_121 : (Cond.fieldLink RX9 179 "OneLampAllOut$Row" "size" "I" : Cond) ∈ wsA := wA_of 121 (by decide +kernel) rfl
set_option maxRecDepth 20000 in
theorem wA_122 : (Cond.fieldLink RX5 26 "OneLampAllOut$Row" "hours" "I" : Cond) ∈ wsA := wA_of 122 (by decide +kernel) rfl
set_option maxRecDepth 20000 in
theorem wA_123 : (Cond.fieldLink RX9 139 "OneLampAllOut$Row" "hours" "I" : Cond) ∈ wsA := wA_of 123 (by decide +kernel) rfl
set_option maxRecDepth 20000 in
theorem wA_141 : (Cond.fieldLink RX4 12 "OneLampAllOut$Mind" "tried" "LOneLampAllOut$Row;" : Cond) ∈ wsA := wA_of 141 (by decide +kernel) rfl
set_option maxRecDepth 20000 in
theorem wA_151 : (Cond.fieldLink RX2 9 "OneLampAllOut$Letters" "signs" "[C" : Cond) ∈ wsA := wA_of 151 (by decide +kernel) rfl
set_option maxRecDepth 20000 in
theorem wA_152 : (Cond.fieldLink RX2 15 "OneLampAllOut$Letters" "size" "I" : Cond) ∈ wsA := wA_of 152 (by decide +kernel) rfl
set_option maxRecDepth 20000 in
theorem wA_153 : (Cond.fieldLink RX9 69 "OneLampAllOut$Letters" "size" "I" : Cond) ∈ wsA := wA_of 153 (by decide +kernel) rfl
set_option maxRecDepth 20000 in
theorem wA_166 : (Cond.fieldLink RX7 23 "OneLampAllOut$Statement" "sign" "I" : Cond) ∈ wsA := wA_of 166 (by decide +kernel) rfl
set_option maxRecDepth 20000 in
theorem wA_167 : (Cond.fieldLink RX5 37 "OneLampAllOut$Statement" "sign" "I" : Cond) ∈ wsA := wA_of 167 (by decide +kernel) rfl
set_option maxRecDepth 20000 in
theorem wA_168 : (Cond.fieldLink RX7 30 "OneLampAllOut$Statement" "first" "I" : Cond) ∈ wsA := wA_of 168 (by decide +kernel) rfl
set_option maxRecDepth 20000 in
theorem wA_169 : (Cond.fieldLink RX5 42 "OneLampAllOut$Statement" "first" "I" : Cond) ∈ wsA := wA_of 169 (by decide +kernel) rfl
set_option maxRecDepth 20000 in
theorem wA_170 : (Cond.fieldLink RX7 33 "OneLampAllOut$Statement" "second" "I" : Cond) ∈ wsA := wA_of 170 (by decide +kernel) rfl
set_option maxRecDepth 20000 in
theorem wA_171 : (Cond.fieldLink RX5 45 "OneLampAllOut$Statement" "second" "I" : Cond) ∈ wsA := wA_of 171 (by decide +kernel) rfl
set_option maxRecDepth 20000 in
theorem wA_172 : (Cond.fieldLink RX7 40 "OneLampAllOut$Statement" "third" "I" : Cond) ∈ wsA := wA_of 172 (by decide +kernel) rfl
set_option maxRecDepth 20000 in
theorem wA_173 : (Cond.fieldLink RX5 48 "OneLampAllOut$Statement" "third" "I" : Cond) ∈ wsA := wA_of 173 (by decide +kernel) rfl
set_option maxRecDepth 20000 in
theorem wA_174 : (Cond.fieldLink RX7 7 "OneLampAllOut$Statement" "place" "I" : Cond) ∈ wsA := wA_of 174 (by decide +kernel) rfl
set_option maxRecDepth 20000 in
theorem wA_175 : (Cond.fieldLink RX9 249 "OneLampAllOut$Statement" "place" "I" : Cond) ∈ wsA := wA_of 175 (by decide +kernel) rfl
set_option maxRecDepth 20000 in
theorem wA_176 : (Cond.fieldLink RX7 13 "OneLampAllOut$Statement" "sound" "Z" : Cond) ∈ wsA := wA_of 176 (by decide +kernel) rfl
set_option maxRecDepth 20000 in
theorem wA_177 : (Cond.fieldLink RX9 252 "OneLampAllOut$Statement" "sound" "Z" : Cond) ∈ wsA := wA_of 177 (by decide +kernel) rfl
set_option maxRecDepth 20000 in
theorem wA_197 : (Cond.fieldLink RX3 9 "OneLampAllOut$Looks" "places" "[I" : Cond) ∈ wsA := wA_of 197 (by decide +kernel) rfl
set_option maxRecDepth 20000 in
theorem wA_198 : (Cond.fieldLink RX3 15 "OneLampAllOut$Looks" "answers" "[I" : Cond) ∈ wsA := wA_of 198 (by decide +kernel) rfl
set_option maxRecDepth 20000 in
theorem wA_199 : (Cond.fieldLink RX3 18 "OneLampAllOut$Looks" "size" "I" : Cond) ∈ wsA := wA_of 199 (by decide +kernel) rfl
set_option maxRecDepth 20000 in
theorem wA_200 : (Cond.fieldLink RX9 183 "OneLampAllOut$Looks" "size" "I" : Cond) ∈ wsA := wA_of 200 (by decide +kernel) rfl
set_option maxRecDepth 20000 in
theorem wA_216 : (Cond.fieldLink RX6 11 "OneLampAllOut$Search" "least" "[[I" : Cond) ∈ wsA := wA_of 216 (by decide +kernel) rfl
set_option maxRecDepth 20000 in
theorem wA_226 : (Cond.fieldLink RX8 9 "OneLampAllOut$SwapOrder" "places" "[I" : Cond) ∈ wsA := wA_of 226 (by decide +kernel) rfl
set_option maxRecDepth 20000 in
theorem wA_227 : (Cond.fieldLink RX9 176 "OneLampAllOut$SwapOrder" "places" "[I" : Cond) ∈ wsA := wA_of 227 (by decide +kernel) rfl
set_option maxRecDepth 20000 in
theorem wA_231 : (Cond.fieldLink RX9 10 "OneLampAllOut" "row" "LOneLampAllOut$Row;" : Cond) ∈ wsA := wA_of 231 (by decide +kernel) rfl
set_option maxRecDepth 20000 in
theorem wA_232 : (Cond.fieldLink RX9 16 "OneLampAllOut" "kept" "LOneLampAllOut$Row;" : Cond) ∈ wsA := wA_of 232 (by decide +kernel) rfl
set_option maxRecDepth 20000 in
theorem wA_233 : (Cond.fieldLink RX9 22 "OneLampAllOut" "mind" "LOneLampAllOut$Mind;" : Cond) ∈ wsA := wA_of 233 (by decide +kernel) rfl
set_option maxRecDepth 20000 in
theorem wA_234 : (Cond.fieldLink RX9 29 "OneLampAllOut" "letters" "LOneLampAllOut$Letters;" : Cond) ∈ wsA := wA_of 234 (by decide +kernel) rfl
set_option maxRecDepth 20000 in
theorem wA_235 : (Cond.fieldLink RX9 36 "OneLampAllOut" "statement" "LOneLampAllOut$Statement;" : Cond) ∈ wsA := wA_of 235 (by decide +kernel) rfl
set_option maxRecDepth 20000 in
theorem wA_236 : (Cond.fieldLink RX9 43 "OneLampAllOut" "looks" "LOneLampAllOut$Looks;" : Cond) ∈ wsA := wA_of 236 (by decide +kernel) rfl
set_option maxRecDepth 20000 in
theorem wA_237 : (Cond.fieldLink RX9 50 "OneLampAllOut" "search" "LOneLampAllOut$Search;" : Cond) ∈ wsA := wA_of 237 (by decide +kernel) rfl
set_option maxRecDepth 20000 in
theorem wA_238 : (Cond.fieldLink RX9 57 "OneLampAllOut" "swaps" "LOneLampAllOut$SwapOrder;" : Cond) ∈ wsA := wA_of 238 (by decide +kernel) rfl
set_option maxRecDepth 20000 in
theorem wA_239 : (Cond.fieldLink RX9 61 "OneLampAllOut" "refusals" "[I" : Cond) ∈ wsA := wA_of 239 (by decide +kernel) rfl
set_option maxRecDepth 20000 in
theorem wA_240 : (Cond.fieldLink RX9 232 "OneLampAllOut" "hasImage" "Z" : Cond) ∈ wsA := wA_of 240 (by decide +kernel) rfl
set_option maxRecDepth 20000 in
theorem wA_266 : (Cond.methodLink RX9 65 yX9_refuse : Cond) ∈ wsA := wA_of 266 (by decide +kernel) rfl
set_option maxRecDepth 20000 in
theorem wA_268 : (Cond.instanceMethod yX9_refuse : Cond) ∈ wsA := wA_of 268 (by decide +kernel) rfl
set_option maxRecDepth 20000 in
theorem wA_269 : (Cond.code yX9_refuse cX9_refuse 3 (some .int) : Cond) ∈ wsA := wA_of 269 (by decide +kernel) rfl
set_option maxRecDepth 20000 in
theorem wA_270 : (Cond.methodLink RX9 73 yX2_add : Cond) ∈ wsA := wA_of 270 (by decide +kernel) rfl
set_option maxRecDepth 20000 in
theorem wA_271 : (Cond.instanceMethod yX2_add : Cond) ∈ wsA := wA_of 271 (by decide +kernel) rfl
set_option maxRecDepth 20000 in
theorem wA_272 : (Cond.selects RX2 yX2_add yX2_add : Cond) ∈ wsA := wA_of 272 (by decide +kernel) rfl
set_option maxRecDepth 20000 in
theorem wA_273 : (Cond.code yX2_add cX2_add 2 none : Cond) ∈ wsA := wA_of 273 (by decide +kernel) rfl
set_option maxRecDepth 20000 in
theorem wA_278 : (Cond.methodLink RX9 77 yX9_formOfLetters : Cond) ∈ wsA := wA_of 278 (by decide +kernel) rfl
set_option maxRecDepth 20000 in
theorem wA_280 : (Cond.instanceMethod yX9_formOfLetters : Cond) ∈ wsA := wA_of 280 (by decide +kernel) rfl
set_option maxRecDepth 20000 in
theorem wA_281 : (Cond.code yX9_formOfLetters cX9_formOfLetters 3 (some .int) : Cond) ∈ wsA := wA_of 281 (by decide +kernel) rfl
set_option maxRecDepth 20000 in
theorem wA_282 : (Cond.methodLink RX9 245 yX7_read : Cond) ∈ wsA := wA_of 282 (by decide +kernel) rfl
set_option maxRecDepth 20000 in
theorem wA_283 : (Cond.instanceMethod yX7_read : Cond) ∈ wsA := wA_of 283 (by decide +kernel) rfl
set_option maxRecDepth 20000 in
theorem wA_284 : (Cond.selects RX7 yX7_read yX7_read : Cond) ∈ wsA := wA_of 284 (by decide +kernel) rfl
set_option maxRecDepth 20000 in
theorem wA_285 : (Cond.code yX7_read cX7_read 3 none : Cond) ∈ wsA := wA_of 285 (by decide +kernel) rfl
set_option maxRecDepth 20000 in
theorem wA_286 : (Cond.methodLink RX7 17 yX2_signAt : Cond) ∈ wsA := wA_of 286 (by decide +kernel) rfl
set_option maxRecDepth 20000 in
theorem wA_287 : (Cond.instanceMethod yX2_signAt : Cond) ∈ wsA := wA_of 287 (by decide +kernel) rfl
set_option maxRecDepth 20000 in
theorem wA_288 : (Cond.selects RX2 yX2_signAt yX2_signAt : Cond) ∈ wsA := wA_of 288 (by decide +kernel) rfl
set_option maxRecDepth 20000 in
theorem wA_289 : (Cond.code yX2_signAt cX2_signAt 2 (some .int) : Cond) ∈ wsA := wA_of 289 (by decide +kernel) rfl
set_option maxRecDepth 20000 in
theorem wA_290 : (Cond.methodLink RX7 26 yX7_readNumber : Cond) ∈ wsA := wA_of 290 (by decide +kernel) rfl
set_option maxRecDepth 20000 in
theorem wA_292 : (Cond.instanceMethod yX7_readNumber : Cond) ∈ wsA := wA_of 292 (by decide +kernel) rfl
set_option maxRecDepth 20000 in
theorem wA_293 : (Cond.code yX7_readNumber cX7_readNumber 5 (some .int) : Cond) ∈ wsA := wA_of 293 (by decide +kernel) rfl
set_option maxRecDepth 20000 in
theorem wA_294 : (Cond.methodLink RX7 43 yX7_isDigit : Cond) ∈ wsA := wA_of 294 (by decide +kernel) rfl
set_option maxRecDepth 20000 in
theorem wA_295 : (Cond.static yX7_isDigit : Cond) ∈ wsA := wA_of 295 (by decide +kernel) rfl
set_option maxRecDepth 20000 in
theorem wA_296 : (Cond.code yX7_isDigit cX7_isDigit 1 (some .boolean) : Cond) ∈ wsA := wA_of 296 (by decide +kernel) rfl
set_option maxRecDepth 20000 in
theorem wA_297 : (Cond.methodLink RX7 36 yX7_readSign : Cond) ∈ wsA := wA_of 297 (by decide +kernel) rfl
set_option maxRecDepth 20000 in
theorem wA_299 : (Cond.instanceMethod yX7_readSign : Cond) ∈ wsA := wA_of 299 (by decide +kernel) rfl
set_option maxRecDepth 20000 in
theorem wA_300 : (Cond.code yX7_readSign cX7_readSign 3 none : Cond) ∈ wsA := wA_of 300 (by decide +kernel) rfl
set_option maxRecDepth 20000 in
theorem wA_301 : (Cond.methodLink RX9 81 yX4_startFrom : Cond) ∈ wsA := wA_of 301 (by decide +kernel) rfl
set_option maxRecDepth 20000 in
theorem wA_302 : (Cond.instanceMethod yX4_startFrom : Cond) ∈ wsA := wA_of 302 (by decide +kernel) rfl
set_option maxRecDepth 20000 in
theorem wA_303 : (Cond.selects RX4 yX4_startFrom yX4_startFrom : Cond) ∈ wsA := wA_of 303 (by decide +kernel) rfl
set_option maxRecDepth 20000 in
theorem wA_304 : (Cond.code yX4_startFrom cX4_startFrom 2 (some (.object "OneLampAllOut$Row")) : Cond) ∈ wsA := wA_of 304 (by decide +kernel) rfl
set_option maxRecDepth 20000 in
theorem wA_305 : (Cond.methodLink RX4 18 yX5_copyFrom : Cond) ∈ wsA := wA_of 305 (by decide +kernel) rfl
set_option maxRecDepth 20000 in
theorem wA_306 : (Cond.instanceMethod yX5_copyFrom : Cond) ∈ wsA := wA_of 306 (by decide +kernel) rfl
set_option maxRecDepth 20000 in
theorem wA_307 : (Cond.selects RX5 yX5_copyFrom yX5_copyFrom : Cond) ∈ wsA := wA_of 307 (by decide +kernel) rfl
set_option maxRecDepth 20000 in
theorem wA_308 : (Cond.code yX5_copyFrom cX5_copyFrom 3 none : Cond) ∈ wsA := wA_of 308 (by decide +kernel) rfl
set_option maxRecDepth 20000 in
theorem wA_309 : (Cond.methodLink RX5 29 yX1_copyFrom : Cond) ∈ wsA := wA_of 309 (by decide +kernel) rfl
set_option maxRecDepth 20000 in
theorem wA_310 : (Cond.instanceMethod yX1_copyFrom : Cond) ∈ wsA := wA_of 310 (by decide +kernel) rfl
set_option maxRecDepth 20000 in
theorem wA_311 : (Cond.selects RX1 yX1_copyFrom yX1_copyFrom : Cond) ∈ wsA := wA_of 311 (by decide +kernel) rfl
set_option maxRecDepth 20000 in
theorem wA_312 : (Cond.code yX1_copyFrom cX1_copyFrom 2 none : Cond) ∈ wsA := wA_of 312 (by decide +kernel) rfl
set_option maxRecDepth 20000 in
theorem wA_313 : (Cond.methodLink RX9 85 yX9_takeLetters : Cond) ∈ wsA := wA_of 313 (by decide +kernel) rfl
set_option maxRecDepth 20000 in
theorem wA_315 : (Cond.instanceMethod yX9_takeLetters : Cond) ∈ wsA := wA_of 315 (by decide +kernel) rfl
set_option maxRecDepth 20000 in
theorem wA_316 : (Cond.code yX9_takeLetters cX9_takeLetters 4 (some .int) : Cond) ∈ wsA := wA_of 316 (by decide +kernel) rfl
set_option maxRecDepth 20000 in
theorem wA_317 : (Cond.methodLink RX9 255 yX5_take : Cond) ∈ wsA := wA_of 317 (by decide +kernel) rfl
set_option maxRecDepth 20000 in
theorem wA_318 : (Cond.instanceMethod yX5_take : Cond) ∈ wsA := wA_of 318 (by decide +kernel) rfl
set_option maxRecDepth 20000 in
theorem wA_319 : (Cond.selects RX5 yX5_take yX5_take : Cond) ∈ wsA := wA_of 319 (by decide +kernel) rfl
set_option maxRecDepth 20000 in
theorem wA_320 : (Cond.code yX5_take cX5_take 2 (some .boolean) : Cond) ∈ wsA := wA_of 320 (by decide +kernel) rfl
set_option maxRecDepth 20000 in
theorem wA_321 : (Cond.methodLink RX5 51 yX5_addLamp : Cond) ∈ wsA := wA_of 321 (by decide +kernel) rfl
set_option maxRecDepth 20000 in
theorem wA_323 : (Cond.instanceMethod yX5_addLamp : Cond) ∈ wsA := wA_of 323 (by decide +kernel) rfl
set_option maxRecDepth 20000 in
theorem wA_324 : (Cond.code yX5_addLamp cX5_addLamp 5 (some .boolean) : Cond) ∈ wsA := wA_of 324 (by decide +kernel) rfl
set_option maxRecDepth 20000 in
theorem wA_325 : (Cond.methodLink RX5 62 yX1_begin : Cond) ∈ wsA := wA_of 325 (by decide +kernel) rfl
set_option maxRecDepth 20000 in
theorem wA_326 : (Cond.instanceMethod yX1_begin : Cond) ∈ wsA := wA_of 326 (by decide +kernel) rfl
set_option maxRecDepth 20000 in
theorem wA_327 : (Cond.selects RX1 yX1_begin yX1_begin : Cond) ∈ wsA := wA_of 327 (by decide +kernel) rfl
set_option maxRecDepth 20000 in
theorem wA_328 : (Cond.code yX1_begin cX1_begin 4 none : Cond) ∈ wsA := wA_of 328 (by decide +kernel) rfl
set_option maxRecDepth 20000 in
theorem wA_329 : (Cond.methodLink RX1 21 yX1_putAnew : Cond) ∈ wsA := wA_of 329 (by decide +kernel) rfl
set_option maxRecDepth 20000 in
theorem wA_330 : (Cond.instanceMethod yX1_putAnew : Cond) ∈ wsA := wA_of 330 (by decide +kernel) rfl
set_option maxRecDepth 20000 in
theorem wA_331 : (Cond.selects RX1 yX1_putAnew yX1_putAnew : Cond) ∈ wsA := wA_of 331 (by decide +kernel) rfl
set_option maxRecDepth 20000 in
theorem wA_332 : (Cond.code yX1_putAnew cX1_putAnew 1 none : Cond) ∈ wsA := wA_of 332 (by decide +kernel) rfl
set_option maxRecDepth 20000 in
theorem wA_333 : (Cond.methodLink RX5 55 yX5_takeSetting : Cond) ∈ wsA := wA_of 333 (by decide +kernel) rfl
set_option maxRecDepth 20000 in
theorem wA_335 : (Cond.instanceMethod yX5_takeSetting : Cond) ∈ wsA := wA_of 335 (by decide +kernel) rfl
set_option maxRecDepth 20000 in
theorem wA_336 : (Cond.code yX5_takeSetting cX5_takeSetting 3 (some .boolean) : Cond) ∈ wsA := wA_of 336 (by decide +kernel) rfl
set_option maxRecDepth 20000 in
theorem wA_341 : (Cond.methodLink RX5 59 yX5_takeCondition : Cond) ∈ wsA := wA_of 341 (by decide +kernel) rfl
set_option maxRecDepth 20000 in
theorem wA_343 : (Cond.instanceMethod yX5_takeCondition : Cond) ∈ wsA := wA_of 343 (by decide +kernel) rfl
set_option maxRecDepth 20000 in
theorem wA_344 : (Cond.code yX5_takeCondition cX5_takeCondition 3 (some .boolean) : Cond) ∈ wsA := wA_of 344 (by decide +kernel) rfl
set_option maxRecDepth 20000 in
theorem wA_345 : (Cond.methodLink RX5 33 yX5_has : Cond) ∈ wsA := wA_of 345 (by decide +kernel) rfl
set_option maxRecDepth 20000 in
theorem wA_346 : (Cond.instanceMethod yX5_has : Cond) ∈ wsA := wA_of 346 (by decide +kernel) rfl
set_option maxRecDepth 20000 in
theorem wA_347 : (Cond.selects RX5 yX5_has yX5_has : Cond) ∈ wsA := wA_of 347 (by decide +kernel) rfl
set_option maxRecDepth 20000 in
theorem wA_348 : (Cond.code yX5_has cX5_has 2 (some .boolean) : Cond) ∈ wsA := wA_of 348 (by decide +kernel) rfl
set_option maxRecDepth 20000 in
theorem wA_349 : (Cond.methodLink RX9 89 yX5_copyFrom : Cond) ∈ wsA := wA_of 349 (by decide +kernel) rfl
set_option maxRecDepth 20000 in
theorem wA_354 : (Cond.methodLink RX9 93 yX5_has : Cond) ∈ wsA := wA_of 354 (by decide +kernel) rfl
set_option maxRecDepth 20000 in
theorem wA_355 : (Cond.methodLink RX9 118 yX1_drag : Cond) ∈ wsA := wA_of 355 (by decide +kernel) rfl
set_option maxRecDepth 20000 in
theorem wA_356 : (Cond.instanceMethod yX1_drag : Cond) ∈ wsA := wA_of 356 (by decide +kernel) rfl
set_option maxRecDepth 20000 in
theorem wA_357 : (Cond.selects RX1 yX1_drag yX1_drag : Cond) ∈ wsA := wA_of 357 (by decide +kernel) rfl
set_option maxRecDepth 20000 in
theorem wA_358 : (Cond.code yX1_drag cX1_drag 1 (some .int) : Cond) ∈ wsA := wA_of 358 (by decide +kernel) rfl
set_option maxRecDepth 20000 in
theorem wA_359 : (Cond.methodLink RX9 121 yX5_flowNow : Cond) ∈ wsA := wA_of 359 (by decide +kernel) rfl
set_option maxRecDepth 20000 in
theorem wA_360 : (Cond.instanceMethod yX5_flowNow : Cond) ∈ wsA := wA_of 360 (by decide +kernel) rfl
set_option maxRecDepth 20000 in
theorem wA_361 : (Cond.selects RX5 yX5_flowNow yX5_flowNow : Cond) ∈ wsA := wA_of 361 (by decide +kernel) rfl
set_option maxRecDepth 20000 in
theorem wA_362 : (Cond.code yX5_flowNow cX5_flowNow 1 (some .int) : Cond) ∈ wsA := wA_of 362 (by decide +kernel) rfl
set_option maxRecDepth 20000 in
theorem wA_363 : (Cond.methodLink RX5 92 yX5_isLive : Cond) ∈ wsA := wA_of 363 (by decide +kernel) rfl
set_option maxRecDepth 20000 in
theorem wA_364 : (Cond.instanceMethod yX5_isLive : Cond) ∈ wsA := wA_of 364 (by decide +kernel) rfl
set_option maxRecDepth 20000 in
theorem wA_365 : (Cond.selects RX5 yX5_isLive yX5_isLive : Cond) ∈ wsA := wA_of 365 (by decide +kernel) rfl
set_option maxRecDepth 20000 in
theorem wA_366 : (Cond.code yX5_isLive cX5_isLive 1 (some .boolean) : Cond) ∈ wsA := wA_of 366 (by decide +kernel) rfl
set_option maxRecDepth 20000 in
theorem wA_367 : (Cond.methodLink RX5 86 yX5_isWhole : Cond) ∈ wsA := wA_of 367 (by decide +kernel) rfl
set_option maxRecDepth 20000 in
theorem wA_368 : (Cond.instanceMethod yX5_isWhole : Cond) ∈ wsA := wA_of 368 (by decide +kernel) rfl
set_option maxRecDepth 20000 in
theorem wA_369 : (Cond.selects RX5 yX5_isWhole yX5_isWhole : Cond) ∈ wsA := wA_of 369 (by decide +kernel) rfl
set_option maxRecDepth 20000 in
theorem wA_370 : (Cond.code yX5_isWhole cX5_isWhole 4 (some .boolean) : Cond) ∈ wsA := wA_of 370 (by decide +kernel) rfl
set_option maxRecDepth 20000 in
theorem wA_371 : (Cond.methodLink RX5 78 yX1_breaksRow : Cond) ∈ wsA := wA_of 371 (by decide +kernel) rfl
set_option maxRecDepth 20000 in
theorem wA_372 : (Cond.instanceMethod yX1_breaksRow : Cond) ∈ wsA := wA_of 372 (by decide +kernel) rfl
set_option maxRecDepth 20000 in
theorem wA_373 : (Cond.selects RX1 yX1_breaksRow yX1_breaksRow : Cond) ∈ wsA := wA_of 373 (by decide +kernel) rfl
set_option maxRecDepth 20000 in
theorem wA_374 : (Cond.code yX1_breaksRow cX1_breaksRow 1 (some .boolean) : Cond) ∈ wsA := wA_of 374 (by decide +kernel) rfl
set_option maxRecDepth 20000 in
theorem wA_375 : (Cond.methodLink RX5 89 yX5_allDrags : Cond) ∈ wsA := wA_of 375 (by decide +kernel) rfl
set_option maxRecDepth 20000 in
theorem wA_376 : (Cond.instanceMethod yX5_allDrags : Cond) ∈ wsA := wA_of 376 (by decide +kernel) rfl
set_option maxRecDepth 20000 in
theorem wA_377 : (Cond.selects RX5 yX5_allDrags yX5_allDrags : Cond) ∈ wsA := wA_of 377 (by decide +kernel) rfl
set_option maxRecDepth 20000 in
theorem wA_378 : (Cond.code yX5_allDrags cX5_allDrags 3 (some .int) : Cond) ∈ wsA := wA_of 378 (by decide +kernel) rfl
set_option maxRecDepth 20000 in
theorem wA_379 : (Cond.methodLink RX5 82 yX1_drag : Cond) ∈ wsA := wA_of 379 (by decide +kernel) rfl
set_option maxRecDepth 20000 in
theorem wA_380 : (Cond.methodLink RX5 95 yX5_flowThrough : Cond) ∈ wsA := wA_of 380 (by decide +kernel) rfl
set_option maxRecDepth 20000 in
theorem wA_381 : (Cond.instanceMethod yX5_flowThrough : Cond) ∈ wsA := wA_of 381 (by decide +kernel) rfl
set_option maxRecDepth 20000 in
theorem wA_382 : (Cond.selects RX5 yX5_flowThrough yX5_flowThrough : Cond) ∈ wsA := wA_of 382 (by decide +kernel) rfl
set_option maxRecDepth 20000 in
theorem wA_383 : (Cond.code yX5_flowThrough cX5_flowThrough 2 (some .int) : Cond) ∈ wsA := wA_of 383 (by decide +kernel) rfl
set_option maxRecDepth 20000 in
theorem wA_384 : (Cond.methodLink RX5 99 Lib.Math.min.name : Cond) ∈ wsA := wA_of 384 (by decide +kernel) rfl
set_option maxRecDepth 20000 in
theorem wA_385 : (Cond.static Lib.Math.min.name : Cond) ∈ wsA := wA_of 385 (by decide +kernel) rfl
set_option maxRecDepth 20000 in
theorem wA_386 : (Cond.code Lib.Math.min.name Lib.Math.min.code 2 (some .int) : Cond) ∈ wsA := wA_of 386 (by decide +kernel) rfl
set_option maxRecDepth 20000 in
theorem wA_387 : (Cond.methodLink RX9 124 yX1_brightAt : Cond) ∈ wsA := wA_of 387 (by decide +kernel) rfl
set_option maxRecDepth 20000 in
theorem wA_388 : (Cond.instanceMethod yX1_brightAt : Cond) ∈ wsA := wA_of 388 (by decide +kernel) rfl
set_option maxRecDepth 20000 in
theorem wA_389 : (Cond.selects RX1 yX1_brightAt yX1_brightAt : Cond) ∈ wsA := wA_of 389 (by decide +kernel) rfl
set_option maxRecDepth 20000 in
theorem wA_390 : (Cond.code yX1_brightAt cX1_brightAt 2 (some .int) : Cond) ∈ wsA := wA_of 390 (by decide +kernel) rfl
set_option maxRecDepth 20000 in
theorem wA_391 : (Cond.methodLink RX1 30 yX1_isWell : Cond) ∈ wsA := wA_of 391 (by decide +kernel) rfl
set_option maxRecDepth 20000 in
theorem wA_392 : (Cond.instanceMethod yX1_isWell : Cond) ∈ wsA := wA_of 392 (by decide +kernel) rfl
set_option maxRecDepth 20000 in
theorem wA_393 : (Cond.selects RX1 yX1_isWell yX1_isWell : Cond) ∈ wsA := wA_of 393 (by decide +kernel) rfl
set_option maxRecDepth 20000 in
theorem wA_394 : (Cond.code yX1_isWell cX1_isWell 1 (some .boolean) : Cond) ∈ wsA := wA_of 394 (by decide +kernel) rfl
set_option maxRecDepth 20000 in
theorem wA_395 : (Cond.methodLink RX1 34 yX1_drag : Cond) ∈ wsA := wA_of 395 (by decide +kernel) rfl
set_option maxRecDepth 20000 in
theorem wA_396 : (Cond.methodLink RX9 127 yX1_likely : Cond) ∈ wsA := wA_of 396 (by decide +kernel) rfl
set_option maxRecDepth 20000 in
theorem wA_397 : (Cond.instanceMethod yX1_likely : Cond) ∈ wsA := wA_of 397 (by decide +kernel) rfl
set_option maxRecDepth 20000 in
theorem wA_398 : (Cond.selects RX1 yX1_likely yX1_likely : Cond) ∈ wsA := wA_of 398 (by decide +kernel) rfl
set_option maxRecDepth 20000 in
theorem wA_399 : (Cond.code yX1_likely cX1_likely 2 (some .int) : Cond) ∈ wsA := wA_of 399 (by decide +kernel) rfl
set_option maxRecDepth 20000 in
theorem wA_400 : (Cond.methodLink RX1 38 yX1_isBridger : Cond) ∈ wsA := wA_of 400 (by decide +kernel) rfl
set_option maxRecDepth 20000 in
theorem wA_401 : (Cond.instanceMethod yX1_isBridger : Cond) ∈ wsA := wA_of 401 (by decide +kernel) rfl
set_option maxRecDepth 20000 in
theorem wA_402 : (Cond.selects RX1 yX1_isBridger yX1_isBridger : Cond) ∈ wsA := wA_of 402 (by decide +kernel) rfl
set_option maxRecDepth 20000 in
theorem wA_403 : (Cond.code yX1_isBridger cX1_isBridger 1 (some .boolean) : Cond) ∈ wsA := wA_of 403 (by decide +kernel) rfl
set_option maxRecDepth 20000 in
theorem wA_404 : (Cond.methodLink RX1 41 yX1_isLoose : Cond) ∈ wsA := wA_of 404 (by decide +kernel) rfl
set_option maxRecDepth 20000 in
theorem wA_405 : (Cond.instanceMethod yX1_isLoose : Cond) ∈ wsA := wA_of 405 (by decide +kernel) rfl
set_option maxRecDepth 20000 in
theorem wA_406 : (Cond.selects RX1 yX1_isLoose yX1_isLoose : Cond) ∈ wsA := wA_of 406 (by decide +kernel) rfl
set_option maxRecDepth 20000 in
theorem wA_407 : (Cond.code yX1_isLoose cX1_isLoose 1 (some .boolean) : Cond) ∈ wsA := wA_of 407 (by decide +kernel) rfl
set_option maxRecDepth 20000 in
theorem wA_412 : (Cond.fieldLink RX9 130 "OneLampAllOut" "LEAST_SETTING" "[I" : Cond) ∈ wsA := wA_of 412 (by decide +kernel) rfl
set_option maxRecDepth 20000 in
theorem wA_413 : (Cond.fieldLink RX9 133 "OneLampAllOut" "GREATEST_SETTING" "[I" : Cond) ∈ wsA := wA_of 413 (by decide +kernel) rfl
set_option maxRecDepth 20000 in
theorem wA_422 : (Cond.methodLink RX9 142 yX5_passHour : Cond) ∈ wsA := wA_of 422 (by decide +kernel) rfl
set_option maxRecDepth 20000 in
theorem wA_423 : (Cond.instanceMethod yX5_passHour : Cond) ∈ wsA := wA_of 423 (by decide +kernel) rfl
set_option maxRecDepth 20000 in
theorem wA_424 : (Cond.selects RX5 yX5_passHour yX5_passHour : Cond) ∈ wsA := wA_of 424 (by decide +kernel) rfl
set_option maxRecDepth 20000 in
theorem wA_425 : (Cond.code yX5_passHour cX5_passHour 7 (some .int) : Cond) ∈ wsA := wA_of 425 (by decide +kernel) rfl
set_option maxRecDepth 20000 in
theorem wA_426 : (Cond.methodLink RX5 111 yX1_isWell : Cond) ∈ wsA := wA_of 426 (by decide +kernel) rfl
set_option maxRecDepth 20000 in
theorem wA_427 : (Cond.methodLink RX5 114 yX1_burn : Cond) ∈ wsA := wA_of 427 (by decide +kernel) rfl
set_option maxRecDepth 20000 in
theorem wA_428 : (Cond.instanceMethod yX1_burn : Cond) ∈ wsA := wA_of 428 (by decide +kernel) rfl
set_option maxRecDepth 20000 in
theorem wA_429 : (Cond.selects RX1 yX1_burn yX1_burn : Cond) ∈ wsA := wA_of 429 (by decide +kernel) rfl
set_option maxRecDepth 20000 in
theorem wA_430 : (Cond.code yX1_burn cX1_burn 2 none : Cond) ∈ wsA := wA_of 430 (by decide +kernel) rfl
set_option maxRecDepth 20000 in
theorem wA_431 : (Cond.methodLink RX1 44 yX1_brightAt : Cond) ∈ wsA := wA_of 431 (by decide +kernel) rfl
set_option maxRecDepth 20000 in
theorem wA_432 : (Cond.methodLink RX1 48 Lib.Math.min.name : Cond) ∈ wsA := wA_of 432 (by decide +kernel) rfl
set_option maxRecDepth 20000 in
theorem wA_433 : (Cond.methodLink RX1 54 yX1_mustDie : Cond) ∈ wsA := wA_of 433 (by decide +kernel) rfl
set_option maxRecDepth 20000 in
theorem wA_434 : (Cond.instanceMethod yX1_mustDie : Cond) ∈ wsA := wA_of 434 (by decide +kernel) rfl
set_option maxRecDepth 20000 in
theorem wA_435 : (Cond.selects RX1 yX1_mustDie yX1_mustDie : Cond) ∈ wsA := wA_of 435 (by decide +kernel) rfl
set_option maxRecDepth 20000 in
theorem wA_436 : (Cond.code yX1_mustDie cX1_mustDie 2 (some .boolean) : Cond) ∈ wsA := wA_of 436 (by decide +kernel) rfl
set_option maxRecDepth 20000 in
theorem wA_437 : (Cond.methodLink RX1 58 yX1_whenDead : Cond) ∈ wsA := wA_of 437 (by decide +kernel) rfl
set_option maxRecDepth 20000 in
theorem wA_438 : (Cond.instanceMethod yX1_whenDead : Cond) ∈ wsA := wA_of 438 (by decide +kernel) rfl
set_option maxRecDepth 20000 in
theorem wA_439 : (Cond.selects RX1 yX1_whenDead yX1_whenDead : Cond) ∈ wsA := wA_of 439 (by decide +kernel) rfl
set_option maxRecDepth 20000 in
theorem wA_440 : (Cond.code yX1_whenDead cX1_whenDead 1 (some .int) : Cond) ∈ wsA := wA_of 440 (by decide +kernel) rfl
set_option maxRecDepth 20000 in
theorem wA_441 : (Cond.methodLink RX5 118 yX1_worksLoose : Cond) ∈ wsA := wA_of 441 (by decide +kernel) rfl
set_option maxRecDepth 20000 in
theorem wA_442 : (Cond.instanceMethod yX1_worksLoose : Cond) ∈ wsA := wA_of 442 (by decide +kernel) rfl
set_option maxRecDepth 20000 in
theorem wA_443 : (Cond.selects RX1 yX1_worksLoose yX1_worksLoose : Cond) ∈ wsA := wA_of 443 (by decide +kernel) rfl
set_option maxRecDepth 20000 in
theorem wA_444 : (Cond.code yX1_worksLoose cX1_worksLoose 3 (some .boolean) : Cond) ∈ wsA := wA_of 444 (by decide +kernel) rfl
set_option maxRecDepth 20000 in
theorem wA_449 : (Cond.methodLink RX9 145 yX1_putAnew : Cond) ∈ wsA := wA_of 449 (by decide +kernel) rfl
set_option maxRecDepth 20000 in
theorem wA_450 : (Cond.methodLink RX9 148 yX5_isLive : Cond) ∈ wsA := wA_of 450 (by decide +kernel) rfl
set_option maxRecDepth 20000 in
theorem wA_451 : (Cond.methodLink RX9 152 yX9_asNumber : Cond) ∈ wsA := wA_of 451 (by decide +kernel) rfl
set_option maxRecDepth 20000 in
theorem wA_452 : (Cond.static yX9_asNumber : Cond) ∈ wsA := wA_of 452 (by decide +kernel) rfl
set_option maxRecDepth 20000 in
theorem wA_453 : (Cond.code yX9_asNumber cX9_asNumber 1 (some .int) : Cond) ∈ wsA := wA_of 453 (by decide +kernel) rfl
set_option maxRecDepth 20000 in
theorem wA_458 : (Cond.methodLink RX9 156 yX5_hasStretch : Cond) ∈ wsA := wA_of 458 (by decide +kernel) rfl
set_option maxRecDepth 20000 in
theorem wA_459 : (Cond.instanceMethod yX5_hasStretch : Cond) ∈ wsA := wA_of 459 (by decide +kernel) rfl
set_option maxRecDepth 20000 in
theorem wA_460 : (Cond.selects RX5 yX5_hasStretch yX5_hasStretch : Cond) ∈ wsA := wA_of 460 (by decide +kernel) rfl
set_option maxRecDepth 20000 in
theorem wA_461 : (Cond.code yX5_hasStretch cX5_hasStretch 3 (some .boolean) : Cond) ∈ wsA := wA_of 461 (by decide +kernel) rfl
set_option maxRecDepth 20000 in
theorem wA_462 : (Cond.methodLink RX9 160 yX5_isWhole : Cond) ∈ wsA := wA_of 462 (by decide +kernel) rfl
set_option maxRecDepth 20000 in
theorem wA_471 : (Cond.methodLink RX9 163 yX5_touchAt : Cond) ∈ wsA := wA_of 471 (by decide +kernel) rfl
set_option maxRecDepth 20000 in
theorem wA_472 : (Cond.instanceMethod yX5_touchAt : Cond) ∈ wsA := wA_of 472 (by decide +kernel) rfl
set_option maxRecDepth 20000 in
theorem wA_473 : (Cond.selects RX5 yX5_touchAt yX5_touchAt : Cond) ∈ wsA := wA_of 473 (by decide +kernel) rfl
set_option maxRecDepth 20000 in
theorem wA_474 : (Cond.code yX5_touchAt cX5_touchAt 2 none : Cond) ∈ wsA := wA_of 474 (by decide +kernel) rfl
set_option maxRecDepth 20000 in
theorem wA_475 : (Cond.methodLink RX5 121 yX1_touchWith : Cond) ∈ wsA := wA_of 475 (by decide +kernel) rfl
set_option maxRecDepth 20000 in
theorem wA_476 : (Cond.instanceMethod yX1_touchWith : Cond) ∈ wsA := wA_of 476 (by decide +kernel) rfl
set_option maxRecDepth 20000 in
theorem wA_477 : (Cond.selects RX1 yX1_touchWith yX1_touchWith : Cond) ∈ wsA := wA_of 477 (by decide +kernel) rfl
set_option maxRecDepth 20000 in
theorem wA_478 : (Cond.code yX1_touchWith cX1_touchWith 2 none : Cond) ∈ wsA := wA_of 478 (by decide +kernel) rfl
set_option maxRecDepth 20000 in
theorem wA_483 : (Cond.methodLink RX9 166 yX6_leastCost : Cond) ∈ wsA := wA_of 483 (by decide +kernel) rfl
set_option maxRecDepth 20000 in
theorem wA_484 : (Cond.instanceMethod yX6_leastCost : Cond) ∈ wsA := wA_of 484 (by decide +kernel) rfl
set_option maxRecDepth 20000 in
theorem wA_485 : (Cond.selects RX6 yX6_leastCost yX6_leastCost : Cond) ∈ wsA := wA_of 485 (by decide +kernel) rfl
set_option maxRecDepth 20000 in
theorem wA_486 : (Cond.code yX6_leastCost cX6_leastCost 5 (some .int) : Cond) ∈ wsA := wA_of 486 (by decide +kernel) rfl
set_option maxRecDepth 20000 in
theorem wA_487 : (Cond.methodLink RX6 16 yX5_hasStretch : Cond) ∈ wsA := wA_of 487 (by decide +kernel) rfl
set_option maxRecDepth 20000 in
theorem wA_488 : (Cond.methodLink RX6 22 yX6_fill : Cond) ∈ wsA := wA_of 488 (by decide +kernel) rfl
set_option maxRecDepth 20000 in
theorem wA_490 : (Cond.instanceMethod yX6_fill : Cond) ∈ wsA := wA_of 490 (by decide +kernel) rfl
set_option maxRecDepth 20000 in
theorem wA_491 : (Cond.code yX6_fill cX6_fill 7 none : Cond) ∈ wsA := wA_of 491 (by decide +kernel) rfl
set_option maxRecDepth 20000 in
theorem wA_492 : (Cond.methodLink RX6 38 yX6_leastOf : Cond) ∈ wsA := wA_of 492 (by decide +kernel) rfl
set_option maxRecDepth 20000 in
theorem wA_494 : (Cond.instanceMethod yX6_leastOf : Cond) ∈ wsA := wA_of 494 (by decide +kernel) rfl
set_option maxRecDepth 20000 in
theorem wA_495 : (Cond.code yX6_leastOf cX6_leastOf 8 (some .int) : Cond) ∈ wsA := wA_of 495 (by decide +kernel) rfl
set_option maxRecDepth 20000 in
theorem wA_496 : (Cond.methodLink RX6 30 yX6_weightOf : Cond) ∈ wsA := wA_of 496 (by decide +kernel) rfl
set_option maxRecDepth 20000 in
theorem wA_497 : (Cond.static yX6_weightOf : Cond) ∈ wsA := wA_of 497 (by decide +kernel) rfl
set_option maxRecDepth 20000 in
theorem wA_498 : (Cond.code yX6_weightOf cX6_weightOf 5 (some .int) : Cond) ∈ wsA := wA_of 498 (by decide +kernel) rfl
set_option maxRecDepth 20000 in
theorem wA_499 : (Cond.methodLink RX6 60 yX1_likely : Cond) ∈ wsA := wA_of 499 (by decide +kernel) rfl
set_option maxRecDepth 20000 in
theorem wA_500 : (Cond.methodLink RX6 34 yX6_costOf : Cond) ∈ wsA := wA_of 500 (by decide +kernel) rfl
set_option maxRecDepth 20000 in
theorem wA_502 : (Cond.instanceMethod yX6_costOf : Cond) ∈ wsA := wA_of 502 (by decide +kernel) rfl
set_option maxRecDepth 20000 in
theorem wA_503 : (Cond.code yX6_costOf cX6_costOf 10 (some .int) : Cond) ∈ wsA := wA_of 503 (by decide +kernel) rfl
set_option maxRecDepth 20000 in
theorem wA_504 : (Cond.methodLink RX6 57 Lib.Math.max.name : Cond) ∈ wsA := wA_of 504 (by decide +kernel) rfl
set_option maxRecDepth 20000 in
theorem wA_505 : (Cond.static Lib.Math.max.name : Cond) ∈ wsA := wA_of 505 (by decide +kernel) rfl
set_option maxRecDepth 20000 in
theorem wA_506 : (Cond.code Lib.Math.max.name Lib.Math.max.code 2 (some .int) : Cond) ∈ wsA := wA_of 506 (by decide +kernel) rfl
set_option maxRecDepth 20000 in
theorem wA_507 : (Cond.methodLink RX6 41 Lib.Math.min.name : Cond) ∈ wsA := wA_of 507 (by decide +kernel) rfl
set_option maxRecDepth 20000 in
theorem wA_512 : (Cond.methodLink RX9 170 yX6_bestPlace : Cond) ∈ wsA := wA_of 512 (by decide +kernel) rfl
set_option maxRecDepth 20000 in
theorem wA_513 : (Cond.instanceMethod yX6_bestPlace : Cond) ∈ wsA := wA_of 513 (by decide +kernel) rfl
set_option maxRecDepth 20000 in
theorem wA_514 : (Cond.selects RX6 yX6_bestPlace yX6_bestPlace : Cond) ∈ wsA := wA_of 514 (by decide +kernel) rfl
set_option maxRecDepth 20000 in
theorem wA_515 : (Cond.code yX6_bestPlace cX6_bestPlace 8 (some .int) : Cond) ∈ wsA := wA_of 515 (by decide +kernel) rfl
set_option maxRecDepth 20000 in
theorem wA_516 : (Cond.methodLink RX6 26 yX6_leastCost : Cond) ∈ wsA := wA_of 516 (by decide +kernel) rfl
set_option maxRecDepth 20000 in
theorem wA_521 : (Cond.methodLink RX9 173 yX8_arrange : Cond) ∈ wsA := wA_of 521 (by decide +kernel) rfl
set_option maxRecDepth 20000 in
theorem wA_522 : (Cond.instanceMethod yX8_arrange : Cond) ∈ wsA := wA_of 522 (by decide +kernel) rfl
set_option maxRecDepth 20000 in
theorem wA_523 : (Cond.selects RX8 yX8_arrange yX8_arrange : Cond) ∈ wsA := wA_of 523 (by decide +kernel) rfl
set_option maxRecDepth 20000 in
theorem wA_524 : (Cond.code yX8_arrange cX8_arrange 4 none : Cond) ∈ wsA := wA_of 524 (by decide +kernel) rfl
set_option maxRecDepth 20000 in
theorem wA_525 : (Cond.methodLink RX8 25 yX8_comesFirst : Cond) ∈ wsA := wA_of 525 (by decide +kernel) rfl
set_option maxRecDepth 20000 in
theorem wA_526 : (Cond.static yX8_comesFirst : Cond) ∈ wsA := wA_of 526 (by decide +kernel) rfl
set_option maxRecDepth 20000 in
theorem wA_527 : (Cond.code yX8_comesFirst cX8_comesFirst 2 (some .boolean) : Cond) ∈ wsA := wA_of 527 (by decide +kernel) rfl
set_option maxRecDepth 20000 in
theorem wA_528 : (Cond.methodLink RX8 34 yX1_likely : Cond) ∈ wsA := wA_of 528 (by decide +kernel) rfl
set_option maxRecDepth 20000 in
theorem wA_533 : (Cond.methodLink RX9 180 yX8_cost : Cond) ∈ wsA := wA_of 533 (by decide +kernel) rfl
set_option maxRecDepth 20000 in
theorem wA_534 : (Cond.instanceMethod yX8_cost : Cond) ∈ wsA := wA_of 534 (by decide +kernel) rfl
set_option maxRecDepth 20000 in
theorem wA_535 : (Cond.selects RX8 yX8_cost yX8_cost : Cond) ∈ wsA := wA_of 535 (by decide +kernel) rfl
set_option maxRecDepth 20000 in
theorem wA_536 : (Cond.code yX8_cost cX8_cost 6 (some .int) : Cond) ∈ wsA := wA_of 536 (by decide +kernel) rfl
set_option maxRecDepth 20000 in
theorem wA_541 : (Cond.methodLink RX9 184 yX3_add : Cond) ∈ wsA := wA_of 541 (by decide +kernel) rfl
set_option maxRecDepth 20000 in
theorem wA_542 : (Cond.instanceMethod yX3_add : Cond) ∈ wsA := wA_of 542 (by decide +kernel) rfl
set_option maxRecDepth 20000 in
theorem wA_543 : (Cond.selects RX3 yX3_add yX3_add : Cond) ∈ wsA := wA_of 543 (by decide +kernel) rfl
set_option maxRecDepth 20000 in
theorem wA_544 : (Cond.code yX3_add cX3_add 3 none : Cond) ∈ wsA := wA_of 544 (by decide +kernel) rfl
set_option maxRecDepth 20000 in
theorem wA_549 : (Cond.methodLink RX9 187 yX3_leftAfter : Cond) ∈ wsA := wA_of 549 (by decide +kernel) rfl
set_option maxRecDepth 20000 in
theorem wA_550 : (Cond.instanceMethod yX3_leftAfter : Cond) ∈ wsA := wA_of 550 (by decide +kernel) rfl
set_option maxRecDepth 20000 in
theorem wA_551 : (Cond.selects RX3 yX3_leftAfter yX3_leftAfter : Cond) ∈ wsA := wA_of 551 (by decide +kernel) rfl
set_option maxRecDepth 20000 in
theorem wA_552 : (Cond.code yX3_leftAfter cX3_leftAfter 6 (some .int) : Cond) ∈ wsA := wA_of 552 (by decide +kernel) rfl
set_option maxRecDepth 20000 in
theorem wA_557 : (Cond.methodLink RX9 191 yX3_firstThatLeavesNone : Cond) ∈ wsA := wA_of 557 (by decide +kernel) rfl
set_option maxRecDepth 20000 in
theorem wA_558 : (Cond.instanceMethod yX3_firstThatLeavesNone : Cond) ∈ wsA := wA_of 558 (by decide +kernel) rfl
set_option maxRecDepth 20000 in
theorem wA_559 : (Cond.selects RX3 yX3_firstThatLeavesNone yX3_firstThatLeavesNone : Cond) ∈ wsA := wA_of 559 (by decide +kernel) rfl
set_option maxRecDepth 20000 in
theorem wA_560 : (Cond.code yX3_firstThatLeavesNone cX3_firstThatLeavesNone 3 (some .int) : Cond) ∈ wsA := wA_of 560 (by decide +kernel) rfl
set_option maxRecDepth 20000 in
theorem wA_561 : (Cond.methodLink RX3 22 yX3_leftAfter : Cond) ∈ wsA := wA_of 561 (by decide +kernel) rfl
set_option maxRecDepth 20000 in
theorem wA_566 : (Cond.methodLink RX9 194 yX4_hoursTillDark : Cond) ∈ wsA := wA_of 566 (by decide +kernel) rfl
set_option maxRecDepth 20000 in
theorem wA_567 : (Cond.instanceMethod yX4_hoursTillDark : Cond) ∈ wsA := wA_of 567 (by decide +kernel) rfl
set_option maxRecDepth 20000 in
theorem wA_568 : (Cond.selects RX4 yX4_hoursTillDark yX4_hoursTillDark : Cond) ∈ wsA := wA_of 568 (by decide +kernel) rfl
set_option maxRecDepth 20000 in
theorem wA_569 : (Cond.code yX4_hoursTillDark cX4_hoursTillDark 3 (some .int) : Cond) ∈ wsA := wA_of 569 (by decide +kernel) rfl
set_option maxRecDepth 20000 in
theorem wA_570 : (Cond.methodLink RX4 22 yX4_startFrom : Cond) ∈ wsA := wA_of 570 (by decide +kernel) rfl
set_option maxRecDepth 20000 in
theorem wA_571 : (Cond.methodLink RX4 26 yX5_isLive : Cond) ∈ wsA := wA_of 571 (by decide +kernel) rfl
set_option maxRecDepth 20000 in
theorem wA_572 : (Cond.methodLink RX4 30 yX5_passHour : Cond) ∈ wsA := wA_of 572 (by decide +kernel) rfl
set_option maxRecDepth 20000 in
theorem wA_577 : (Cond.methodLink RX9 197 yX4_firstToGo : Cond) ∈ wsA := wA_of 577 (by decide +kernel) rfl
set_option maxRecDepth 20000 in
theorem wA_578 : (Cond.instanceMethod yX4_firstToGo : Cond) ∈ wsA := wA_of 578 (by decide +kernel) rfl
set_option maxRecDepth 20000 in
theorem wA_579 : (Cond.selects RX4 yX4_firstToGo yX4_firstToGo : Cond) ∈ wsA := wA_of 579 (by decide +kernel) rfl
set_option maxRecDepth 20000 in
theorem wA_580 : (Cond.code yX4_firstToGo cX4_firstToGo 5 (some .int) : Cond) ∈ wsA := wA_of 580 (by decide +kernel) rfl
set_option maxRecDepth 20000 in
theorem wA_581 : (Cond.methodLink RX4 34 yX4_firstGone : Cond) ∈ wsA := wA_of 581 (by decide +kernel) rfl
set_option maxRecDepth 20000 in
theorem wA_583 : (Cond.instanceMethod yX4_firstGone : Cond) ∈ wsA := wA_of 583 (by decide +kernel) rfl
set_option maxRecDepth 20000 in
theorem wA_584 : (Cond.code yX4_firstGone cX4_firstGone 3 (some .int) : Cond) ∈ wsA := wA_of 584 (by decide +kernel) rfl
set_option maxRecDepth 20000 in
theorem wA_585 : (Cond.methodLink RX4 46 yX1_isWell : Cond) ∈ wsA := wA_of 585 (by decide +kernel) rfl
set_option maxRecDepth 20000 in
theorem wA_590 : (Cond.methodLink RX9 201 yX4_hoursTillBridged : Cond) ∈ wsA := wA_of 590 (by decide +kernel) rfl
set_option maxRecDepth 20000 in
theorem wA_591 : (Cond.instanceMethod yX4_hoursTillBridged : Cond) ∈ wsA := wA_of 591 (by decide +kernel) rfl
set_option maxRecDepth 20000 in
theorem wA_592 : (Cond.selects RX4 yX4_hoursTillBridged yX4_hoursTillBridged : Cond) ∈ wsA := wA_of 592 (by decide +kernel) rfl
set_option maxRecDepth 20000 in
theorem wA_593 : (Cond.code yX4_hoursTillBridged cX4_hoursTillBridged 4 (some .int) : Cond) ∈ wsA := wA_of 593 (by decide +kernel) rfl
set_option maxRecDepth 20000 in
theorem wA_594 : (Cond.methodLink RX4 51 yX5_howMany : Cond) ∈ wsA := wA_of 594 (by decide +kernel) rfl
set_option maxRecDepth 20000 in
theorem wA_595 : (Cond.instanceMethod yX5_howMany : Cond) ∈ wsA := wA_of 595 (by decide +kernel) rfl
set_option maxRecDepth 20000 in
theorem wA_596 : (Cond.selects RX5 yX5_howMany yX5_howMany : Cond) ∈ wsA := wA_of 596 (by decide +kernel) rfl
set_option maxRecDepth 20000 in
theorem wA_597 : (Cond.code yX5_howMany cX5_howMany 4 (some .int) : Cond) ∈ wsA := wA_of 597 (by decide +kernel) rfl
set_option maxRecDepth 20000 in
theorem wA_602 : (Cond.methodLink RX9 205 yX5_bridgedAboveLimit : Cond) ∈ wsA := wA_of 602 (by decide +kernel) rfl
set_option maxRecDepth 20000 in
theorem wA_603 : (Cond.instanceMethod yX5_bridgedAboveLimit : Cond) ∈ wsA := wA_of 603 (by decide +kernel) rfl
set_option maxRecDepth 20000 in
theorem wA_604 : (Cond.selects RX5 yX5_bridgedAboveLimit yX5_bridgedAboveLimit : Cond) ∈ wsA := wA_of 604 (by decide +kernel) rfl
set_option maxRecDepth 20000 in
theorem wA_605 : (Cond.code yX5_bridgedAboveLimit cX5_bridgedAboveLimit 2 (some .int) : Cond) ∈ wsA := wA_of 605 (by decide +kernel) rfl
set_option maxRecDepth 20000 in
theorem wA_610 : (Cond.methodLink RX9 208 yX4_lightOf : Cond) ∈ wsA := wA_of 610 (by decide +kernel) rfl
set_option maxRecDepth 20000 in
theorem wA_611 : (Cond.instanceMethod yX4_lightOf : Cond) ∈ wsA := wA_of 611 (by decide +kernel) rfl
set_option maxRecDepth 20000 in
theorem wA_612 : (Cond.selects RX4 yX4_lightOf yX4_lightOf : Cond) ∈ wsA := wA_of 612 (by decide +kernel) rfl
set_option maxRecDepth 20000 in
theorem wA_613 : (Cond.code yX4_lightOf cX4_lightOf 5 (some .int) : Cond) ∈ wsA := wA_of 613 (by decide +kernel) rfl
set_option maxRecDepth 20000 in
theorem wA_614 : (Cond.methodLink RX4 55 yX5_allBright : Cond) ∈ wsA := wA_of 614 (by decide +kernel) rfl
set_option maxRecDepth 20000 in
theorem wA_615 : (Cond.instanceMethod yX5_allBright : Cond) ∈ wsA := wA_of 615 (by decide +kernel) rfl
set_option maxRecDepth 20000 in
theorem wA_616 : (Cond.selects RX5 yX5_allBright yX5_allBright : Cond) ∈ wsA := wA_of 616 (by decide +kernel) rfl
set_option maxRecDepth 20000 in
theorem wA_617 : (Cond.code yX5_allBright cX5_allBright 4 (some .int) : Cond) ∈ wsA := wA_of 617 (by decide +kernel) rfl
set_option maxRecDepth 20000 in
theorem wA_618 : (Cond.methodLink RX5 105 yX5_flowNow : Cond) ∈ wsA := wA_of 618 (by decide +kernel) rfl
set_option maxRecDepth 20000 in
theorem wA_619 : (Cond.methodLink RX5 108 yX1_brightAt : Cond) ∈ wsA := wA_of 619 (by decide +kernel) rfl
set_option maxRecDepth 20000 in
theorem wA_624 : (Cond.methodLink RX9 211 yX4_sparesTaken : Cond) ∈ wsA := wA_of 624 (by decide +kernel) rfl
set_option maxRecDepth 20000 in
theorem wA_625 : (Cond.instanceMethod yX4_sparesTaken : Cond) ∈ wsA := wA_of 625 (by decide +kernel) rfl
set_option maxRecDepth 20000 in
theorem wA_626 : (Cond.selects RX4 yX4_sparesTaken yX4_sparesTaken : Cond) ∈ wsA := wA_of 626 (by decide +kernel) rfl
set_option maxRecDepth 20000 in
theorem wA_627 : (Cond.code yX4_sparesTaken cX4_sparesTaken 5 (some .int) : Cond) ∈ wsA := wA_of 627 (by decide +kernel) rfl
set_option maxRecDepth 20000 in
theorem wA_628 : (Cond.methodLink RX4 58 yX5_mendAll : Cond) ∈ wsA := wA_of 628 (by decide +kernel) rfl
set_option maxRecDepth 20000 in
theorem wA_629 : (Cond.instanceMethod yX5_mendAll : Cond) ∈ wsA := wA_of 629 (by decide +kernel) rfl
set_option maxRecDepth 20000 in
theorem wA_630 : (Cond.selects RX5 yX5_mendAll yX5_mendAll : Cond) ∈ wsA := wA_of 630 (by decide +kernel) rfl
set_option maxRecDepth 20000 in
theorem wA_631 : (Cond.code yX5_mendAll cX5_mendAll 3 (some .int) : Cond) ∈ wsA := wA_of 631 (by decide +kernel) rfl
set_option maxRecDepth 20000 in
theorem wA_632 : (Cond.methodLink RX5 124 yX1_putAnew : Cond) ∈ wsA := wA_of 632 (by decide +kernel) rfl
set_option maxRecDepth 20000 in
theorem wA_637 : (Cond.methodLink RX9 214 yX4_greatestAnew : Cond) ∈ wsA := wA_of 637 (by decide +kernel) rfl
set_option maxRecDepth 20000 in
theorem wA_638 : (Cond.instanceMethod yX4_greatestAnew : Cond) ∈ wsA := wA_of 638 (by decide +kernel) rfl
set_option maxRecDepth 20000 in
theorem wA_639 : (Cond.selects RX4 yX4_greatestAnew yX4_greatestAnew : Cond) ∈ wsA := wA_of 639 (by decide +kernel) rfl
set_option maxRecDepth 20000 in
theorem wA_640 : (Cond.code yX4_greatestAnew cX4_greatestAnew 3 (some .int) : Cond) ∈ wsA := wA_of 640 (by decide +kernel) rfl
set_option maxRecDepth 20000 in
theorem wA_641 : (Cond.methodLink RX4 61 yX4_staysLive : Cond) ∈ wsA := wA_of 641 (by decide +kernel) rfl
set_option maxRecDepth 20000 in
theorem wA_643 : (Cond.instanceMethod yX4_staysLive : Cond) ∈ wsA := wA_of 643 (by decide +kernel) rfl
set_option maxRecDepth 20000 in
theorem wA_644 : (Cond.code yX4_staysLive cX4_staysLive 4 (some .boolean) : Cond) ∈ wsA := wA_of 644 (by decide +kernel) rfl
set_option maxRecDepth 20000 in
theorem wA_645 : (Cond.methodLink RX4 65 yX5_putAllAnew : Cond) ∈ wsA := wA_of 645 (by decide +kernel) rfl
set_option maxRecDepth 20000 in
theorem wA_646 : (Cond.instanceMethod yX5_putAllAnew : Cond) ∈ wsA := wA_of 646 (by decide +kernel) rfl
set_option maxRecDepth 20000 in
theorem wA_647 : (Cond.selects RX5 yX5_putAllAnew yX5_putAllAnew : Cond) ∈ wsA := wA_of 647 (by decide +kernel) rfl
set_option maxRecDepth 20000 in
theorem wA_648 : (Cond.code yX5_putAllAnew cX5_putAllAnew 2 none : Cond) ∈ wsA := wA_of 648 (by decide +kernel) rfl
set_option maxRecDepth 20000 in
theorem wA_653 : (Cond.methodLink RX9 217 yX5_stringsWithinLimit : Cond) ∈ wsA := wA_of 653 (by decide +kernel) rfl
set_option maxRecDepth 20000 in
theorem wA_654 : (Cond.instanceMethod yX5_stringsWithinLimit : Cond) ∈ wsA := wA_of 654 (by decide +kernel) rfl
set_option maxRecDepth 20000 in
theorem wA_655 : (Cond.selects RX5 yX5_stringsWithinLimit yX5_stringsWithinLimit : Cond) ∈ wsA := wA_of 655 (by decide +kernel) rfl
set_option maxRecDepth 20000 in
theorem wA_656 : (Cond.code yX5_stringsWithinLimit cX5_stringsWithinLimit 1 (some .int) : Cond) ∈ wsA := wA_of 656 (by decide +kernel) rfl
set_option maxRecDepth 20000 in
theorem wA_657 : (Cond.methodLink RX5 127 Lib.Math.max.name : Cond) ∈ wsA := wA_of 657 (by decide +kernel) rfl
set_option maxRecDepth 20000 in
theorem wA_662 : (Cond.constantLong RX9 220 4000000000000000000 : Cond) ∈ wsA := wA_of 662 (by decide +kernel) rfl
set_option maxRecDepth 20000 in
theorem wA_663 : (Cond.methodLink RX9 222 yX0_ofTwo : Cond) ∈ wsA := wA_of 663 (by decide +kernel) rfl
set_option maxRecDepth 20000 in
theorem wA_664 : (Cond.static yX0_ofTwo : Cond) ∈ wsA := wA_of 664 (by decide +kernel) rfl
set_option maxRecDepth 20000 in
theorem wA_665 : (Cond.code yX0_ofTwo cX0_ofTwo 14 (some .long) : Cond) ∈ wsA := wA_of 665 (by decide +kernel) rfl
set_option maxRecDepth 20000 in
theorem wA_666 : (Cond.methodLink RX0 19 yX1_likely : Cond) ∈ wsA := wA_of 666 (by decide +kernel) rfl
set_option maxRecDepth 20000 in
theorem wA_667 : (Cond.methodLink RX0 25 Lib.Math.min.name : Cond) ∈ wsA := wA_of 667 (by decide +kernel) rfl
set_option maxRecDepth 20000 in
theorem wA_668 : (Cond.constantLong RX0 31 100 : Cond) ∈ wsA := wA_of 668 (by decide +kernel) rfl
set_option maxRecDepth 20000 in
theorem wA_669 : (Cond.methodLink RX0 33 yX0_greatestShared : Cond) ∈ wsA := wA_of 669 (by decide +kernel) rfl
set_option maxRecDepth 20000 in
theorem wA_670 : (Cond.static yX0_greatestShared : Cond) ∈ wsA := wA_of 670 (by decide +kernel) rfl
set_option maxRecDepth 20000 in
theorem wA_671 : (Cond.code yX0_greatestShared cX0_greatestShared 11 (some .long) : Cond) ∈ wsA := wA_of 671 (by decide +kernel) rfl
set_option maxRecDepth 20000 in
theorem wA_676 : (Cond.methodLink RX9 228 yX4_wellAfterTouches : Cond) ∈ wsA := wA_of 676 (by decide +kernel) rfl
set_option maxRecDepth 20000 in
theorem wA_677 : (Cond.instanceMethod yX4_wellAfterTouches : Cond) ∈ wsA := wA_of 677 (by decide +kernel) rfl
set_option maxRecDepth 20000 in
theorem wA_678 : (Cond.selects RX4 yX4_wellAfterTouches yX4_wellAfterTouches : Cond) ∈ wsA := wA_of 678 (by decide +kernel) rfl
set_option maxRecDepth 20000 in
theorem wA_679 : (Cond.code yX4_wellAfterTouches cX4_wellAfterTouches 6 (some .int) : Cond) ∈ wsA := wA_of 679 (by decide +kernel) rfl
set_option maxRecDepth 20000 in
theorem wA_680 : (Cond.constant RX4 68 1103515245 : Cond) ∈ wsA := wA_of 680 (by decide +kernel) rfl
set_option maxRecDepth 20000 in
theorem wA_681 : (Cond.methodLink RX4 69 yX4_drawBelow : Cond) ∈ wsA := wA_of 681 (by decide +kernel) rfl
set_option maxRecDepth 20000 in
theorem wA_682 : (Cond.static yX4_drawBelow : Cond) ∈ wsA := wA_of 682 (by decide +kernel) rfl
set_option maxRecDepth 20000 in
theorem wA_683 : (Cond.code yX4_drawBelow cX4_drawBelow 2 (some .int) : Cond) ∈ wsA := wA_of 683 (by decide +kernel) rfl
set_option maxRecDepth 20000 in
theorem wA_684 : (Cond.constant RX4 77 2147483647 : Cond) ∈ wsA := wA_of 684 (by decide +kernel) rfl
set_option maxRecDepth 20000 in
theorem wA_685 : (Cond.constant RX4 78 65536 : Cond) ∈ wsA := wA_of 685 (by decide +kernel) rfl
set_option maxRecDepth 20000 in
theorem wA_686 : (Cond.methodLink RX4 73 yX5_touchAt : Cond) ∈ wsA := wA_of 686 (by decide +kernel) rfl
set_option maxRecDepth 20000 in
theorem wA_699 : (Cond.methodLink RX9 236 yX5_howMany : Cond) ∈ wsA := wA_of 699 (by decide +kernel) rfl
set_option maxRecDepth 20000 in
theorem wA_700 : (Cond.methodLink RX9 239 yX5_allHurt : Cond) ∈ wsA := wA_of 700 (by decide +kernel) rfl
set_option maxRecDepth 20000 in
theorem wA_701 : (Cond.instanceMethod yX5_allHurt : Cond) ∈ wsA := wA_of 701 (by decide +kernel) rfl
set_option maxRecDepth 20000 in
theorem wA_702 : (Cond.selects RX5 yX5_allHurt yX5_allHurt : Cond) ∈ wsA := wA_of 702 (by decide +kernel) rfl
set_option maxRecDepth 20000 in
theorem wA_703 : (Cond.code yX5_allHurt cX5_allHurt 3 (some .int) : Cond) ∈ wsA := wA_of 703 (by decide +kernel) rfl
set_option maxRecDepth 20000 in
theorem wA_704 : (Cond.methodLink RX9 242 yX9_refusalsOf : Cond) ∈ wsA := wA_of 704 (by decide +kernel) rfl
set_option maxRecDepth 20000 in
theorem wA_706 : (Cond.instanceMethod yX9_refusalsOf : Cond) ∈ wsA := wA_of 706 (by decide +kernel) rfl
set_option maxRecDepth 20000 in
theorem wA_707 : (Cond.code yX9_refusalsOf cX9_refusalsOf 2 (some .int) : Cond) ∈ wsA := wA_of 707 (by decide +kernel) rfl
set_option maxRecDepth 20000 in
theorem wA_714 : (Cond.fieldLink RX10 7 "OneLampAllOutModel" "refused" "[I" : Cond) ∈ wsA := wA_of 714 (by decide +kernel) rfl
set_option maxRecDepth 20000 in
theorem wA_715 : (Cond.fieldLink RX10 13 "OneLampAllOutModel" "kind" "[I" : Cond) ∈ wsA := wA_of 715 (by decide +kernel) rfl
set_option maxRecDepth 20000 in
theorem wA_716 : (Cond.fieldLink RX10 16 "OneLampAllOutModel" "life" "[I" : Cond) ∈ wsA := wA_of 716 (by decide +kernel) rfl
set_option maxRecDepth 20000 in
theorem wA_717 : (Cond.fieldLink RX10 19 "OneLampAllOutModel" "minutes" "[I" : Cond) ∈ wsA := wA_of 717 (by decide +kernel) rfl
set_option maxRecDepth 20000 in
theorem wA_718 : (Cond.fieldLink RX10 22 "OneLampAllOutModel" "hurt" "[I" : Cond) ∈ wsA := wA_of 718 (by decide +kernel) rfl
set_option maxRecDepth 20000 in
theorem wA_719 : (Cond.fieldLink RX10 25 "OneLampAllOutModel" "state" "[I" : Cond) ∈ wsA := wA_of 719 (by decide +kernel) rfl
set_option maxRecDepth 20000 in
theorem wA_720 : (Cond.fieldLink RX10 28 "OneLampAllOutModel" "setting" "[I" : Cond) ∈ wsA := wA_of 720 (by decide +kernel) rfl
set_option maxRecDepth 20000 in
theorem wA_721 : (Cond.fieldLink RX10 72 "OneLampAllOutModel" "lamps" "I" : Cond) ∈ wsA := wA_of 721 (by decide +kernel) rfl
set_option maxRecDepth 20000 in
theorem wA_722 : (Cond.fieldLink RX10 140 "OneLampAllOutModel" "hour" "I" : Cond) ∈ wsA := wA_of 722 (by decide +kernel) rfl
set_option maxRecDepth 20000 in
theorem wA_723 : (Cond.fieldLink RX10 31 "OneLampAllOutModel" "tape" "[I" : Cond) ∈ wsA := wA_of 723 (by decide +kernel) rfl
set_option maxRecDepth 20000 in
theorem wA_724 : (Cond.fieldLink RX10 34 "OneLampAllOutModel" "letter" "[I" : Cond) ∈ wsA := wA_of 724 (by decide +kernel) rfl
set_option maxRecDepth 20000 in
theorem wA_725 : (Cond.fieldLink RX10 37 "OneLampAllOutModel" "letterAt" "[I" : Cond) ∈ wsA := wA_of 725 (by decide +kernel) rfl
set_option maxRecDepth 20000 in
theorem wA_726 : (Cond.fieldLink RX10 40 "OneLampAllOutModel" "number" "[I" : Cond) ∈ wsA := wA_of 726 (by decide +kernel) rfl
set_option maxRecDepth 20000 in
theorem wA_727 : (Cond.fieldLink RX10 80 "OneLampAllOutModel" "taped" "I" : Cond) ∈ wsA := wA_of 727 (by decide +kernel) rfl
set_option maxRecDepth 20000 in
theorem wA_728 : (Cond.fieldLink RX10 87 "OneLampAllOutModel" "at" "I" : Cond) ∈ wsA := wA_of 728 (by decide +kernel) rfl
set_option maxRecDepth 20000 in
theorem wA_729 : (Cond.fieldLink RX10 98 "OneLampAllOutModel" "statements" "I" : Cond) ∈ wsA := wA_of 729 (by decide +kernel) rfl
set_option maxRecDepth 20000 in
theorem wA_730 : (Cond.fieldLink RX10 43 "OneLampAllOutModel" "kept" "[I" : Cond) ∈ wsA := wA_of 730 (by decide +kernel) rfl
set_option maxRecDepth 20000 in
theorem wA_731 : (Cond.fieldLink RX10 143 "OneLampAllOutModel" "hasImage" "Z" : Cond) ∈ wsA := wA_of 731 (by decide +kernel) rfl
set_option maxRecDepth 20000 in
theorem wA_732 : (Cond.fieldLink RX10 126 "OneLampAllOutModel" "isKeeping" "Z" : Cond) ∈ wsA := wA_of 732 (by decide +kernel) rfl
set_option maxRecDepth 20000 in
theorem wA_733 : (Cond.fieldLink RX10 130 "OneLampAllOutModel" "cursor" "I" : Cond) ∈ wsA := wA_of 733 (by decide +kernel) rfl
set_option maxRecDepth 20000 in
theorem wA_734 : (Cond.fieldLink RX10 46 "OneLampAllOutModel" "gain" "[I" : Cond) ∈ wsA := wA_of 734 (by decide +kernel) rfl
set_option maxRecDepth 20000 in
theorem wA_735 : (Cond.fieldLink RX10 49 "OneLampAllOutModel" "mean" "[I" : Cond) ∈ wsA := wA_of 735 (by decide +kernel) rfl
set_option maxRecDepth 20000 in
theorem wA_736 : (Cond.fieldLink RX10 52 "OneLampAllOutModel" "worst" "[I" : Cond) ∈ wsA := wA_of 736 (by decide +kernel) rfl
set_option maxRecDepth 20000 in
theorem wA_737 : (Cond.fieldLink RX10 55 "OneLampAllOutModel" "meanAt" "[I" : Cond) ∈ wsA := wA_of 737 (by decide +kernel) rfl
set_option maxRecDepth 20000 in
theorem wA_738 : (Cond.fieldLink RX10 58 "OneLampAllOutModel" "worstAt" "[I" : Cond) ∈ wsA := wA_of 738 (by decide +kernel) rfl
set_option maxRecDepth 20000 in
theorem wA_739 : (Cond.fieldLink RX10 61 "OneLampAllOutModel" "order" "[I" : Cond) ∈ wsA := wA_of 739 (by decide +kernel) rfl
set_option maxRecDepth 20000 in
theorem wA_740 : (Cond.fieldLink RX10 64 "OneLampAllOutModel" "lookAt" "[I" : Cond) ∈ wsA := wA_of 740 (by decide +kernel) rfl
set_option maxRecDepth 20000 in
theorem wA_741 : (Cond.fieldLink RX10 67 "OneLampAllOutModel" "lookIs" "[I" : Cond) ∈ wsA := wA_of 741 (by decide +kernel) rfl
set_option maxRecDepth 20000 in
theorem wA_742 : (Cond.fieldLink RX10 215 "OneLampAllOutModel" "looks" "I" : Cond) ∈ wsA := wA_of 742 (by decide +kernel) rfl
set_option maxRecDepth 20000 in
theorem wA_743 : (Cond.fieldLink RX10 221 "OneLampAllOutModel" "firstOut" "I" : Cond) ∈ wsA := wA_of 743 (by decide +kernel) rfl
set_option maxRecDepth 20000 in
theorem wA_744 : (Cond.fieldLink RX10 224 "OneLampAllOutModel" "firstAfter" "I" : Cond) ∈ wsA := wA_of 744 (by decide +kernel) rfl
set_option maxRecDepth 20000 in
theorem wA_812 : (Cond.methodLink RX10 76 yX10_bound : Cond) ∈ wsA := wA_of 812 (by decide +kernel) rfl
set_option maxRecDepth 20000 in
theorem wA_813 : (Cond.static yX10_bound : Cond) ∈ wsA := wA_of 813 (by decide +kernel) rfl
set_option maxRecDepth 20000 in
theorem wA_814 : (Cond.code yX10_bound cX10_bound 3 (some .int) : Cond) ∈ wsA := wA_of 814 (by decide +kernel) rfl
set_option maxRecDepth 20000 in
theorem wA_815 : (Cond.methodLink RX10 83 yX10_no : Cond) ∈ wsA := wA_of 815 (by decide +kernel) rfl
set_option maxRecDepth 20000 in
theorem wA_817 : (Cond.instanceMethod yX10_no : Cond) ∈ wsA := wA_of 817 (by decide +kernel) rfl
set_option maxRecDepth 20000 in
theorem wA_818 : (Cond.code yX10_no cX10_no 2 (some .int) : Cond) ∈ wsA := wA_of 818 (by decide +kernel) rfl
set_option maxRecDepth 20000 in
theorem wA_823 : (Cond.methodLink RX10 115 yX10_statement : Cond) ∈ wsA := wA_of 823 (by decide +kernel) rfl
set_option maxRecDepth 20000 in
theorem wA_825 : (Cond.instanceMethod yX10_statement : Cond) ∈ wsA := wA_of 825 (by decide +kernel) rfl
set_option maxRecDepth 20000 in
theorem wA_826 : (Cond.code yX10_statement cX10_statement 3 (some .boolean) : Cond) ∈ wsA := wA_of 826 (by decide +kernel) rfl
set_option maxRecDepth 20000 in
theorem wA_827 : (Cond.methodLink RX10 90 yX10_nextLetter : Cond) ∈ wsA := wA_of 827 (by decide +kernel) rfl
set_option maxRecDepth 20000 in
theorem wA_829 : (Cond.instanceMethod yX10_nextLetter : Cond) ∈ wsA := wA_of 829 (by decide +kernel) rfl
set_option maxRecDepth 20000 in
theorem wA_830 : (Cond.code yX10_nextLetter cX10_nextLetter 1 (some .int) : Cond) ∈ wsA := wA_of 830 (by decide +kernel) rfl
set_option maxRecDepth 20000 in
theorem wA_831 : (Cond.methodLink RX10 101 yX10_reads : Cond) ∈ wsA := wA_of 831 (by decide +kernel) rfl
set_option maxRecDepth 20000 in
theorem wA_833 : (Cond.instanceMethod yX10_reads : Cond) ∈ wsA := wA_of 833 (by decide +kernel) rfl
set_option maxRecDepth 20000 in
theorem wA_834 : (Cond.code yX10_reads cX10_reads 5 (some .boolean) : Cond) ∈ wsA := wA_of 834 (by decide +kernel) rfl
set_option maxRecDepth 20000 in
theorem wA_835 : (Cond.methodLink RX10 94 yX10_isIn : Cond) ∈ wsA := wA_of 835 (by decide +kernel) rfl
set_option maxRecDepth 20000 in
theorem wA_836 : (Cond.static yX10_isIn : Cond) ∈ wsA := wA_of 836 (by decide +kernel) rfl
set_option maxRecDepth 20000 in
theorem wA_837 : (Cond.code yX10_isIn cX10_isIn 3 (some .boolean) : Cond) ∈ wsA := wA_of 837 (by decide +kernel) rfl
set_option maxRecDepth 20000 in
theorem wA_838 : (Cond.methodLink RX10 105 yX10_isNext : Cond) ∈ wsA := wA_of 838 (by decide +kernel) rfl
set_option maxRecDepth 20000 in
theorem wA_840 : (Cond.instanceMethod yX10_isNext : Cond) ∈ wsA := wA_of 840 (by decide +kernel) rfl
set_option maxRecDepth 20000 in
theorem wA_841 : (Cond.code yX10_isNext cX10_isNext 2 (some .boolean) : Cond) ∈ wsA := wA_of 841 (by decide +kernel) rfl
set_option maxRecDepth 20000 in
theorem wA_842 : (Cond.methodLink RX10 119 yX10_passesAll : Cond) ∈ wsA := wA_of 842 (by decide +kernel) rfl
set_option maxRecDepth 20000 in
theorem wA_844 : (Cond.instanceMethod yX10_passesAll : Cond) ∈ wsA := wA_of 844 (by decide +kernel) rfl
set_option maxRecDepth 20000 in
theorem wA_845 : (Cond.code yX10_passesAll cX10_passesAll 3 none : Cond) ∈ wsA := wA_of 845 (by decide +kernel) rfl
set_option maxRecDepth 20000 in
theorem wA_846 : (Cond.methodLink RX10 133 yX10_passes : Cond) ∈ wsA := wA_of 846 (by decide +kernel) rfl
set_option maxRecDepth 20000 in
theorem wA_848 : (Cond.instanceMethod yX10_passes : Cond) ∈ wsA := wA_of 848 (by decide +kernel) rfl
set_option maxRecDepth 20000 in
theorem wA_849 : (Cond.code yX10_passes cX10_passes 3 none : Cond) ∈ wsA := wA_of 849 (by decide +kernel) rfl
set_option maxRecDepth 20000 in
theorem wA_850 : (Cond.methodLink RX10 137 yX10_passOne : Cond) ∈ wsA := wA_of 850 (by decide +kernel) rfl
set_option maxRecDepth 20000 in
theorem wA_852 : (Cond.instanceMethod yX10_passOne : Cond) ∈ wsA := wA_of 852 (by decide +kernel) rfl
set_option maxRecDepth 20000 in
theorem wA_853 : (Cond.code yX10_passOne cX10_passOne 3 (some .int) : Cond) ∈ wsA := wA_of 853 (by decide +kernel) rfl
set_option maxRecDepth 20000 in
theorem wA_854 : (Cond.methodLink RX10 123 yX10_comes : Cond) ∈ wsA := wA_of 854 (by decide +kernel) rfl
set_option maxRecDepth 20000 in
theorem wA_856 : (Cond.instanceMethod yX10_comes : Cond) ∈ wsA := wA_of 856 (by decide +kernel) rfl
set_option maxRecDepth 20000 in
theorem wA_857 : (Cond.code yX10_comes cX10_comes 3 (some .boolean) : Cond) ∈ wsA := wA_of 857 (by decide +kernel) rfl
set_option maxRecDepth 20000 in
theorem wA_858 : (Cond.methodLink RX10 109 yX10_comesLamp : Cond) ∈ wsA := wA_of 858 (by decide +kernel) rfl
set_option maxRecDepth 20000 in
theorem wA_860 : (Cond.instanceMethod yX10_comesLamp : Cond) ∈ wsA := wA_of 860 (by decide +kernel) rfl
set_option maxRecDepth 20000 in
theorem wA_861 : (Cond.code yX10_comesLamp cX10_comesLamp 2 (some .boolean) : Cond) ∈ wsA := wA_of 861 (by decide +kernel) rfl
set_option maxRecDepth 20000 in
theorem wA_862 : (Cond.methodLink RX10 112 yX10_isLamp : Cond) ∈ wsA := wA_of 862 (by decide +kernel) rfl
set_option maxRecDepth 20000 in
theorem wA_864 : (Cond.instanceMethod yX10_isLamp : Cond) ∈ wsA := wA_of 864 (by decide +kernel) rfl
set_option maxRecDepth 20000 in
theorem wA_865 : (Cond.code yX10_isLamp cX10_isLamp 2 (some .boolean) : Cond) ∈ wsA := wA_of 865 (by decide +kernel) rfl
set_option maxRecDepth 20000 in
theorem wA_878 : (Cond.methodLink RX10 146 yX10_dragOf : Cond) ∈ wsA := wA_of 878 (by decide +kernel) rfl
set_option maxRecDepth 20000 in
theorem wA_880 : (Cond.instanceMethod yX10_dragOf : Cond) ∈ wsA := wA_of 880 (by decide +kernel) rfl
set_option maxRecDepth 20000 in
theorem wA_881 : (Cond.code yX10_dragOf cX10_dragOf 2 (some .int) : Cond) ∈ wsA := wA_of 881 (by decide +kernel) rfl
set_option maxRecDepth 20000 in
theorem wA_882 : (Cond.methodLink RX10 168 yX10_flowNow : Cond) ∈ wsA := wA_of 882 (by decide +kernel) rfl
set_option maxRecDepth 20000 in
theorem wA_884 : (Cond.instanceMethod yX10_flowNow : Cond) ∈ wsA := wA_of 884 (by decide +kernel) rfl
set_option maxRecDepth 20000 in
theorem wA_885 : (Cond.code yX10_flowNow cX10_flowNow 1 (some .int) : Cond) ∈ wsA := wA_of 885 (by decide +kernel) rfl
set_option maxRecDepth 20000 in
theorem wA_886 : (Cond.methodLink RX10 155 yX10_isLive : Cond) ∈ wsA := wA_of 886 (by decide +kernel) rfl
set_option maxRecDepth 20000 in
theorem wA_888 : (Cond.instanceMethod yX10_isLive : Cond) ∈ wsA := wA_of 888 (by decide +kernel) rfl
set_option maxRecDepth 20000 in
theorem wA_889 : (Cond.code yX10_isLive cX10_isLive 1 (some .boolean) : Cond) ∈ wsA := wA_of 889 (by decide +kernel) rfl
set_option maxRecDepth 20000 in
theorem wA_890 : (Cond.methodLink RX10 149 yX10_isWhole : Cond) ∈ wsA := wA_of 890 (by decide +kernel) rfl
set_option maxRecDepth 20000 in
theorem wA_892 : (Cond.instanceMethod yX10_isWhole : Cond) ∈ wsA := wA_of 892 (by decide +kernel) rfl
set_option maxRecDepth 20000 in
theorem wA_893 : (Cond.code yX10_isWhole cX10_isWhole 4 (some .boolean) : Cond) ∈ wsA := wA_of 893 (by decide +kernel) rfl
set_option maxRecDepth 20000 in
theorem wA_894 : (Cond.methodLink RX10 152 yX10_drags : Cond) ∈ wsA := wA_of 894 (by decide +kernel) rfl
set_option maxRecDepth 20000 in
theorem wA_896 : (Cond.instanceMethod yX10_drags : Cond) ∈ wsA := wA_of 896 (by decide +kernel) rfl
set_option maxRecDepth 20000 in
theorem wA_897 : (Cond.code yX10_drags cX10_drags 3 (some .int) : Cond) ∈ wsA := wA_of 897 (by decide +kernel) rfl
set_option maxRecDepth 20000 in
theorem wA_898 : (Cond.methodLink RX10 158 yX10_least : Cond) ∈ wsA := wA_of 898 (by decide +kernel) rfl
set_option maxRecDepth 20000 in
theorem wA_899 : (Cond.static yX10_least : Cond) ∈ wsA := wA_of 899 (by decide +kernel) rfl
set_option maxRecDepth 20000 in
theorem wA_900 : (Cond.code yX10_least cX10_least 2 (some .int) : Cond) ∈ wsA := wA_of 900 (by decide +kernel) rfl
set_option maxRecDepth 20000 in
theorem wA_901 : (Cond.methodLink RX10 171 yX10_brightBy : Cond) ∈ wsA := wA_of 901 (by decide +kernel) rfl
set_option maxRecDepth 20000 in
theorem wA_903 : (Cond.instanceMethod yX10_brightBy : Cond) ∈ wsA := wA_of 903 (by decide +kernel) rfl
set_option maxRecDepth 20000 in
theorem wA_904 : (Cond.code yX10_brightBy cX10_brightBy 3 (some .int) : Cond) ∈ wsA := wA_of 904 (by decide +kernel) rfl
set_option maxRecDepth 20000 in
theorem wA_905 : (Cond.methodLink RX10 174 yX10_likelyOf : Cond) ∈ wsA := wA_of 905 (by decide +kernel) rfl
set_option maxRecDepth 20000 in
theorem wA_907 : (Cond.instanceMethod yX10_likelyOf : Cond) ∈ wsA := wA_of 907 (by decide +kernel) rfl
set_option maxRecDepth 20000 in
theorem wA_908 : (Cond.code yX10_likelyOf cX10_likelyOf 2 (some .int) : Cond) ∈ wsA := wA_of 908 (by decide +kernel) rfl
set_option maxRecDepth 20000 in
theorem wA_909 : (Cond.methodLink RX10 162 yX10_doesBridge : Cond) ∈ wsA := wA_of 909 (by decide +kernel) rfl
set_option maxRecDepth 20000 in
theorem wA_911 : (Cond.instanceMethod yX10_doesBridge : Cond) ∈ wsA := wA_of 911 (by decide +kernel) rfl
set_option maxRecDepth 20000 in
theorem wA_912 : (Cond.code yX10_doesBridge cX10_doesBridge 2 (some .boolean) : Cond) ∈ wsA := wA_of 912 (by decide +kernel) rfl
set_option maxRecDepth 20000 in
theorem wA_913 : (Cond.methodLink RX10 165 yX10_isLoose : Cond) ∈ wsA := wA_of 913 (by decide +kernel) rfl
set_option maxRecDepth 20000 in
theorem wA_915 : (Cond.instanceMethod yX10_isLoose : Cond) ∈ wsA := wA_of 915 (by decide +kernel) rfl
set_option maxRecDepth 20000 in
theorem wA_916 : (Cond.code yX10_isLoose cX10_isLoose 2 (some .boolean) : Cond) ∈ wsA := wA_of 916 (by decide +kernel) rfl
set_option maxRecDepth 20000 in
theorem wA_921 : (Cond.fieldLink RX10 177 "OneLampAllOutModel" "LEAST_SET" "[I" : Cond) ∈ wsA := wA_of 921 (by decide +kernel) rfl
set_option maxRecDepth 20000 in
theorem wA_923 : (Cond.fieldLink RX10 180 "OneLampAllOutModel" "MOST_SET" "[I" : Cond) ∈ wsA := wA_of 923 (by decide +kernel) rfl
set_option maxRecDepth 20000 in
theorem wA_933 : (Cond.methodLink RX10 189 yX10_goesHour : Cond) ∈ wsA := wA_of 933 (by decide +kernel) rfl
set_option maxRecDepth 20000 in
theorem wA_935 : (Cond.instanceMethod yX10_goesHour : Cond) ∈ wsA := wA_of 935 (by decide +kernel) rfl
set_option maxRecDepth 20000 in
theorem wA_936 : (Cond.code yX10_goesHour cX10_goesHour 5 (some .int) : Cond) ∈ wsA := wA_of 936 (by decide +kernel) rfl
set_option maxRecDepth 20000 in
theorem wA_937 : (Cond.methodLink RX10 183 yX10_doesDie : Cond) ∈ wsA := wA_of 937 (by decide +kernel) rfl
set_option maxRecDepth 20000 in
theorem wA_939 : (Cond.instanceMethod yX10_doesDie : Cond) ∈ wsA := wA_of 939 (by decide +kernel) rfl
set_option maxRecDepth 20000 in
theorem wA_940 : (Cond.code yX10_doesDie cX10_doesDie 3 (some .boolean) : Cond) ∈ wsA := wA_of 940 (by decide +kernel) rfl
set_option maxRecDepth 20000 in
theorem wA_941 : (Cond.methodLink RX10 186 yX10_doesHang : Cond) ∈ wsA := wA_of 941 (by decide +kernel) rfl
set_option maxRecDepth 20000 in
theorem wA_943 : (Cond.instanceMethod yX10_doesHang : Cond) ∈ wsA := wA_of 943 (by decide +kernel) rfl
set_option maxRecDepth 20000 in
theorem wA_944 : (Cond.code yX10_doesHang cX10_doesHang 2 (some .boolean) : Cond) ∈ wsA := wA_of 944 (by decide +kernel) rfl
set_option maxRecDepth 20000 in
theorem wA_949 : (Cond.methodLink RX10 192 yX10_putsAnew : Cond) ∈ wsA := wA_of 949 (by decide +kernel) rfl
set_option maxRecDepth 20000 in
theorem wA_951 : (Cond.instanceMethod yX10_putsAnew : Cond) ∈ wsA := wA_of 951 (by decide +kernel) rfl
set_option maxRecDepth 20000 in
theorem wA_952 : (Cond.code yX10_putsAnew cX10_putsAnew 2 none : Cond) ∈ wsA := wA_of 952 (by decide +kernel) rfl
set_option maxRecDepth 20000 in
theorem wA_957 : (Cond.methodLink RX10 196 yX10_areLamps : Cond) ∈ wsA := wA_of 957 (by decide +kernel) rfl
set_option maxRecDepth 20000 in
theorem wA_959 : (Cond.instanceMethod yX10_areLamps : Cond) ∈ wsA := wA_of 959 (by decide +kernel) rfl
set_option maxRecDepth 20000 in
theorem wA_960 : (Cond.code yX10_areLamps cX10_areLamps 3 (some .boolean) : Cond) ∈ wsA := wA_of 960 (by decide +kernel) rfl
set_option maxRecDepth 20000 in
theorem wA_969 : (Cond.methodLink RX10 199 yX10_touches : Cond) ∈ wsA := wA_of 969 (by decide +kernel) rfl
set_option maxRecDepth 20000 in
theorem wA_971 : (Cond.instanceMethod yX10_touches : Cond) ∈ wsA := wA_of 971 (by decide +kernel) rfl
set_option maxRecDepth 20000 in
theorem wA_972 : (Cond.code yX10_touches cX10_touches 2 none : Cond) ∈ wsA := wA_of 972 (by decide +kernel) rfl
set_option maxRecDepth 20000 in
theorem wA_977 : (Cond.methodLink RX10 209 yX10_findStretches : Cond) ∈ wsA := wA_of 977 (by decide +kernel) rfl
set_option maxRecDepth 20000 in
theorem wA_979 : (Cond.instanceMethod yX10_findStretches : Cond) ∈ wsA := wA_of 979 (by decide +kernel) rfl
set_option maxRecDepth 20000 in
theorem wA_980 : (Cond.code yX10_findStretches cX10_findStretches 3 none : Cond) ∈ wsA := wA_of 980 (by decide +kernel) rfl
set_option maxRecDepth 20000 in
theorem wA_981 : (Cond.methodLink RX10 205 yX10_findStretch : Cond) ∈ wsA := wA_of 981 (by decide +kernel) rfl
set_option maxRecDepth 20000 in
theorem wA_983 : (Cond.instanceMethod yX10_findStretch : Cond) ∈ wsA := wA_of 983 (by decide +kernel) rfl
set_option maxRecDepth 20000 in
theorem wA_984 : (Cond.code yX10_findStretch cX10_findStretch 10 none : Cond) ∈ wsA := wA_of 984 (by decide +kernel) rfl
set_option maxRecDepth 20000 in
theorem wA_985 : (Cond.methodLink RX10 202 yX10_weightOf : Cond) ∈ wsA := wA_of 985 (by decide +kernel) rfl
set_option maxRecDepth 20000 in
theorem wA_987 : (Cond.instanceMethod yX10_weightOf : Cond) ∈ wsA := wA_of 987 (by decide +kernel) rfl
set_option maxRecDepth 20000 in
theorem wA_988 : (Cond.code yX10_weightOf cX10_weightOf 5 (some .int) : Cond) ∈ wsA := wA_of 988 (by decide +kernel) rfl
set_option maxRecDepth 20000 in
theorem wA_997 : (Cond.methodLink RX10 212 yX10_findOrder : Cond) ∈ wsA := wA_of 997 (by decide +kernel) rfl
set_option maxRecDepth 20000 in
theorem wA_999 : (Cond.instanceMethod yX10_findOrder : Cond) ∈ wsA := wA_of 999 (by decide +kernel) rfl
set_option maxRecDepth 20000 in
theorem wA_1000 : (Cond.code yX10_findOrder cX10_findOrder 3 none : Cond) ∈ wsA := wA_of 1000 (by decide +kernel) rfl
set_option maxRecDepth 20000 in
theorem wA_1013 : (Cond.methodLink RX10 218 yX10_openBy : Cond) ∈ wsA := wA_of 1013 (by decide +kernel) rfl
set_option maxRecDepth 20000 in
theorem wA_1015 : (Cond.instanceMethod yX10_openBy : Cond) ∈ wsA := wA_of 1015 (by decide +kernel) rfl
set_option maxRecDepth 20000 in
theorem wA_1016 : (Cond.code yX10_openBy cX10_openBy 6 (some .int) : Cond) ∈ wsA := wA_of 1016 (by decide +kernel) rfl
set_option maxRecDepth 20000 in
theorem wA_1029 : (Cond.methodLink RX10 227 yX10_findNext : Cond) ∈ wsA := wA_of 1029 (by decide +kernel) rfl
set_option maxRecDepth 20000 in
theorem wA_1031 : (Cond.instanceMethod yX10_findNext : Cond) ∈ wsA := wA_of 1031 (by decide +kernel) rfl
set_option maxRecDepth 20000 in
theorem wA_1032 : (Cond.code yX10_findNext cX10_findNext 4 none : Cond) ∈ wsA := wA_of 1032 (by decide +kernel) rfl
set_option maxRecDepth 20000 in
theorem wA_1037 : (Cond.methodLink RX10 230 yX10_stateMany : Cond) ∈ wsA := wA_of 1037 (by decide +kernel) rfl
set_option maxRecDepth 20000 in
theorem wA_1039 : (Cond.instanceMethod yX10_stateMany : Cond) ∈ wsA := wA_of 1039 (by decide +kernel) rfl
set_option maxRecDepth 20000 in
theorem wA_1040 : (Cond.code yX10_stateMany cX10_stateMany 4 (some .int) : Cond) ∈ wsA := wA_of 1040 (by decide +kernel) rfl
set_option maxRecDepth 20000 in
theorem wA_1057 : (Cond.methodLink RX10 233 yX10_isLiveBy : Cond) ∈ wsA := wA_of 1057 (by decide +kernel) rfl
set_option maxRecDepth 20000 in
theorem wA_1059 : (Cond.instanceMethod yX10_isLiveBy : Cond) ∈ wsA := wA_of 1059 (by decide +kernel) rfl
set_option maxRecDepth 20000 in
theorem wA_1060 : (Cond.code yX10_isLiveBy cX10_isLiveBy 5 (some .boolean) : Cond) ∈ wsA := wA_of 1060 (by decide +kernel) rfl
set_option maxRecDepth 20000 in
theorem wA_1069 : (Cond.methodLink RX10 236 yX10_lowest : Cond) ∈ wsA := wA_of 1069 (by decide +kernel) rfl
set_option maxRecDepth 20000 in
theorem wA_1071 : (Cond.instanceMethod yX10_lowest : Cond) ∈ wsA := wA_of 1071 (by decide +kernel) rfl
set_option maxRecDepth 20000 in
theorem wA_1072 : (Cond.code yX10_lowest cX10_lowest 2 (some .long) : Cond) ∈ wsA := wA_of 1072 (by decide +kernel) rfl
set_option maxRecDepth 20000 in
theorem wA_1073 : (Cond.constantLong RX10 70 4000000000000000000 : Cond) ∈ wsA := wA_of 1073 (by decide +kernel) rfl
set_option maxRecDepth 20000 in
theorem wA_1074 : (Cond.constantLong RX10 240 100 : Cond) ∈ wsA := wA_of 1074 (by decide +kernel) rfl
set_option maxRecDepth 20000 in
theorem wA_1075 : (Cond.methodLink RX10 242 yX10_divisor : Cond) ∈ wsA := wA_of 1075 (by decide +kernel) rfl
set_option maxRecDepth 20000 in
theorem wA_1076 : (Cond.static yX10_divisor : Cond) ∈ wsA := wA_of 1076 (by decide +kernel) rfl
set_option maxRecDepth 20000 in
theorem wA_1077 : (Cond.code yX10_divisor cX10_divisor 10 (some .long) : Cond) ∈ wsA := wA_of 1077 (by decide +kernel) rfl
set_option maxRecDepth 20000 in
theorem wA_1082 : (Cond.constant RX10 246 1103515245 : Cond) ∈ wsA := wA_of 1082 (by decide +kernel) rfl
set_option maxRecDepth 20000 in
theorem wA_1083 : (Cond.constant RX10 247 2147483647 : Cond) ∈ wsA := wA_of 1083 (by decide +kernel) rfl
set_option maxRecDepth 20000 in
theorem wA_1084 : (Cond.constant RX10 248 65536 : Cond) ∈ wsA := wA_of 1084 (by decide +kernel) rfl
set_option maxRecDepth 20000 in
theorem wu_X1 : ∀ w ∈ wsX10, w ∈ wsA := wA_ps _ [97, 99, 101, 103, 105] (by decide +kernel) (by decide +kernel)
set_option maxRecDepth 20000 in
theorem wu_X2 : ∀ w ∈ wsX20, w ∈ wsA := wA_ps _ [154, 156] (by decide +kernel) (by decide +kernel)
set_option maxRecDepth 20000 in
theorem wu_X3 : ∀ w ∈ wsX30, w ∈ wsA := wA_ps _ [201, 203, 205] (by decide +kernel) (by decide +kernel)
set_option maxRecDepth 20000 in
theorem wu_X4 : ∀ w ∈ wsX40, w ∈ wsA := wA_ps _ [142] (by decide +kernel) (by decide +kernel)
set_option maxRecDepth 20000 in
theorem wu_X5 : ∀ w ∈ wsX50, w ∈ wsA := wA_ps _ [124, 126, 128, 130] (by decide +kernel) (by decide +kernel)
set_option maxRecDepth 20000 in
theorem wu_X6 : ∀ w ∈ wsX60, w ∈ wsA := wA_ps _ [217] (by decide +kernel) (by decide +kernel)
set_option maxRecDepth 20000 in
theorem wu_X7 : ∀ w ∈ wsX70, w ∈ wsA := wA_ps _ [178, 180, 182, 184, 186, 188] (by decide +kernel) (by decide +kernel)
set_option maxRecDepth 20000 in
theorem wu_X8 : ∀ w ∈ wsX80, w ∈ wsA := wA_ps _ [228] (by decide +kernel) (by decide +kernel)
set_option maxRecDepth 20000 in
theorem wu_X9 : ∀ w ∈ wsX90, w ∈ wsA := wA_ps _ [241, 243, 245, 247, 249, 251, 253, 255, 257, 259] (by decide +kernel) (by decide +kernel)
set_option maxRecDepth 20000 in
theorem wu_X10 : ∀ w ∈ wsX100, w ∈ wsA := wA_ps _ [745, 747, 749, 751, 753, 755, 757, 759, 761, 763, 765, 767, 769, 771, 773, 775, 777, 779, 781, 783, 785, 787, 789, 791, 793, 795, 797, 799, 801, 803, 805] (by decide +kernel) (by decide +kernel)
theorem gl_X9_65 : GoodIn wsA (wsV RX9 65 RX9 yX9_refuse (wsM yX9_refuse cX9_refuse 3 (some .int))) := wgV wA_266 wA_268 wA_0 wA_50 wA_269
theorem gl_X9_73 : GoodIn wsA (wsV RX9 73 RX2 yX2_add (wsM yX2_add cX2_add 2 none)) := wgV wA_270 wA_271 wA_272 wA_54 wA_273
theorem gl_X7_17 : GoodIn wsA (wsV RX7 17 RX2 yX2_signAt (wsM yX2_signAt cX2_signAt 2 (some .int))) := wgV wA_286 wA_287 wA_288 wA_54 wA_289
theorem gl_X7_43 : GoodIn wsA (va_wsS RX7 43 yX7_isDigit (wsM yX7_isDigit cX7_isDigit 1 (some .boolean))) := wgS wA_294 wA_295 wA_55 wA_296
theorem gl_X7_26 : GoodIn wsA (wsV RX7 26 RX7 yX7_readNumber (wsM yX7_readNumber cX7_readNumber 5 (some .int))) := wgV wA_290 wA_292 wA_2 wA_55 wA_293
theorem gl_X7_36 : GoodIn wsA (wsV RX7 36 RX7 yX7_readSign (wsM yX7_readSign cX7_readSign 3 none)) := wgV wA_297 wA_299 wA_3 wA_55 wA_300
theorem gl_X9_245 : GoodIn wsA (wsV RX9 245 RX7 yX7_read (wsM yX7_read cX7_read 3 none)) := wgV wA_282 wA_283 wA_284 wA_55 wA_285
theorem gl_X5_29 : GoodIn wsA (wsV RX5 29 RX1 yX1_copyFrom (wsM yX1_copyFrom cX1_copyFrom 2 none)) := wgV wA_309 wA_310 wA_311 wA_52 wA_312
theorem gl_X4_18 : GoodIn wsA (wsV RX4 18 RX5 yX5_copyFrom (wsM yX5_copyFrom cX5_copyFrom 3 none)) := wgV wA_305 wA_306 wA_307 wA_51 wA_308
theorem gl_X1_21 : GoodIn wsA (wsV RX1 21 RX1 yX1_putAnew (wsM yX1_putAnew cX1_putAnew 1 none)) := wgV wA_329 wA_330 wA_331 wA_52 wA_332
theorem gl_X5_62 : GoodIn wsA (wsV RX5 62 RX1 yX1_begin (wsM yX1_begin cX1_begin 4 none)) := wgV wA_325 wA_326 wA_327 wA_52 wA_328
theorem gl_X5_33 : GoodIn wsA (wsV RX5 33 RX5 yX5_has (wsM yX5_has cX5_has 2 (some .boolean))) := wgV wA_345 wA_346 wA_347 wA_51 wA_348
theorem gl_X5_59 : GoodIn wsA (wsV RX5 59 RX5 yX5_takeCondition (wsM yX5_takeCondition cX5_takeCondition 3 (some .boolean))) := wgV wA_341 wA_343 wA_7 wA_51 wA_344
theorem gl_X5_55 : GoodIn wsA (wsV RX5 55 RX5 yX5_takeSetting (wsM yX5_takeSetting cX5_takeSetting 3 (some .boolean))) := wgV wA_333 wA_335 wA_6 wA_51 wA_336
theorem gl_X5_51 : GoodIn wsA (wsV RX5 51 RX5 yX5_addLamp (wsM yX5_addLamp cX5_addLamp 5 (some .boolean))) := wgV wA_321 wA_323 wA_5 wA_51 wA_324
theorem gl_X9_255 : GoodIn wsA (wsV RX9 255 RX5 yX5_take (wsM yX5_take cX5_take 2 (some .boolean))) := wgV wA_317 wA_318 wA_319 wA_51 wA_320
theorem gl_X9_77 : GoodIn wsA (wsV RX9 77 RX9 yX9_formOfLetters (wsM yX9_formOfLetters cX9_formOfLetters 3 (some .int))) := wgV wA_278 wA_280 wA_1 wA_50 wA_281
theorem gl_X9_81 : GoodIn wsA (wsV RX9 81 RX4 yX4_startFrom (wsM yX4_startFrom cX4_startFrom 2 (some (.object "OneLampAllOut$Row")))) := wgV wA_301 wA_302 wA_303 wA_53 wA_304
theorem gl_X9_85 : GoodIn wsA (wsV RX9 85 RX9 yX9_takeLetters (wsM yX9_takeLetters cX9_takeLetters 4 (some .int))) := wgV wA_313 wA_315 wA_4 wA_50 wA_316
theorem gl_X9_89 : GoodIn wsA (wsV RX9 89 RX5 yX5_copyFrom (wsM yX5_copyFrom cX5_copyFrom 3 none)) := wgV wA_349 wA_306 wA_307 wA_51 wA_308
theorem gl_X5_78 : GoodIn wsA (wsV RX5 78 RX1 yX1_breaksRow (wsM yX1_breaksRow cX1_breaksRow 1 (some .boolean))) := wgV wA_371 wA_372 wA_373 wA_52 wA_374
theorem gl_X5_82 : GoodIn wsA (wsV RX5 82 RX1 yX1_drag (wsM yX1_drag cX1_drag 1 (some .int))) := wgV wA_379 wA_356 wA_357 wA_52 wA_358
theorem gl_X5_86 : GoodIn wsA (wsV RX5 86 RX5 yX5_isWhole (wsM yX5_isWhole cX5_isWhole 4 (some .boolean))) := wgV wA_367 wA_368 wA_369 wA_51 wA_370
theorem gl_X5_89 : GoodIn wsA (wsV RX5 89 RX5 yX5_allDrags (wsM yX5_allDrags cX5_allDrags 3 (some .int))) := wgV wA_375 wA_376 wA_377 wA_51 wA_378
theorem gl_X5_92 : GoodIn wsA (wsV RX5 92 RX5 yX5_isLive (wsM yX5_isLive cX5_isLive 1 (some .boolean))) := wgV wA_363 wA_364 wA_365 wA_51 wA_366
theorem gl_X5_95 : GoodIn wsA (wsV RX5 95 RX5 yX5_flowThrough (wsM yX5_flowThrough cX5_flowThrough 2 (some .int))) := wgV wA_380 wA_381 wA_382 wA_51 wA_383
theorem gl_X1_30 : GoodIn wsA (wsV RX1 30 RX1 yX1_isWell (wsM yX1_isWell cX1_isWell 1 (some .boolean))) := wgV wA_391 wA_392 wA_393 wA_52 wA_394
theorem gl_X1_34 : GoodIn wsA (wsV RX1 34 RX1 yX1_drag (wsM yX1_drag cX1_drag 1 (some .int))) := wgV wA_395 wA_356 wA_357 wA_52 wA_358
theorem gl_X1_38 : GoodIn wsA (wsV RX1 38 RX1 yX1_isBridger (wsM yX1_isBridger cX1_isBridger 1 (some .boolean))) := wgV wA_400 wA_401 wA_402 wA_52 wA_403
theorem gl_X1_41 : GoodIn wsA (wsV RX1 41 RX1 yX1_isLoose (wsM yX1_isLoose cX1_isLoose 1 (some .boolean))) := wgV wA_404 wA_405 wA_406 wA_52 wA_407
theorem gl_X9_93 : GoodIn wsA (wsV RX9 93 RX5 yX5_has (wsM yX5_has cX5_has 2 (some .boolean))) := wgV wA_354 wA_346 wA_347 wA_51 wA_348
theorem gl_X9_118 : GoodIn wsA (wsV RX9 118 RX1 yX1_drag (wsM yX1_drag cX1_drag 1 (some .int))) := wgV wA_355 wA_356 wA_357 wA_52 wA_358
theorem gl_X9_121 : GoodIn wsA (wsV RX9 121 RX5 yX5_flowNow (wsM yX5_flowNow cX5_flowNow 1 (some .int))) := wgV wA_359 wA_360 wA_361 wA_51 wA_362
theorem gl_X9_124 : GoodIn wsA (wsV RX9 124 RX1 yX1_brightAt (wsM yX1_brightAt cX1_brightAt 2 (some .int))) := wgV wA_387 wA_388 wA_389 wA_52 wA_390
theorem gl_X9_127 : GoodIn wsA (wsV RX9 127 RX1 yX1_likely (wsM yX1_likely cX1_likely 2 (some .int))) := wgV wA_396 wA_397 wA_398 wA_52 wA_399
theorem gl_X1_44 : GoodIn wsA (wsV RX1 44 RX1 yX1_brightAt (wsM yX1_brightAt cX1_brightAt 2 (some .int))) := wgV wA_431 wA_388 wA_389 wA_52 wA_390
theorem gl_X1_54 : GoodIn wsA (wsV RX1 54 RX1 yX1_mustDie (wsM yX1_mustDie cX1_mustDie 2 (some .boolean))) := wgV wA_433 wA_434 wA_435 wA_52 wA_436
theorem gl_X1_58 : GoodIn wsA (wsV RX1 58 RX1 yX1_whenDead (wsM yX1_whenDead cX1_whenDead 1 (some .int))) := wgV wA_437 wA_438 wA_439 wA_52 wA_440
theorem gl_X5_111 : GoodIn wsA (wsV RX5 111 RX1 yX1_isWell (wsM yX1_isWell cX1_isWell 1 (some .boolean))) := wgV wA_426 wA_392 wA_393 wA_52 wA_394
theorem gl_X5_118 : GoodIn wsA (wsV RX5 118 RX1 yX1_worksLoose (wsM yX1_worksLoose cX1_worksLoose 3 (some .boolean))) := wgV wA_441 wA_442 wA_443 wA_52 wA_444
theorem gl_X5_114 : GoodIn wsA (wsV RX5 114 RX1 yX1_burn (wsM yX1_burn cX1_burn 2 none)) := wgV wA_427 wA_428 wA_429 wA_52 wA_430
theorem gl_X9_142 : GoodIn wsA (wsV RX9 142 RX5 yX5_passHour (wsM yX5_passHour cX5_passHour 7 (some .int))) := wgV wA_422 wA_423 wA_424 wA_51 wA_425
theorem gl_X9_145 : GoodIn wsA (wsV RX9 145 RX1 yX1_putAnew (wsM yX1_putAnew cX1_putAnew 1 none)) := wgV wA_449 wA_330 wA_331 wA_52 wA_332
theorem gl_X9_148 : GoodIn wsA (wsV RX9 148 RX5 yX5_isLive (wsM yX5_isLive cX5_isLive 1 (some .boolean))) := wgV wA_450 wA_364 wA_365 wA_51 wA_366
theorem gl_X9_152 : GoodIn wsA (va_wsS RX9 152 yX9_asNumber (wsM yX9_asNumber cX9_asNumber 1 (some .int))) := wgS wA_451 wA_452 wA_50 wA_453
theorem gl_X9_156 : GoodIn wsA (wsV RX9 156 RX5 yX5_hasStretch (wsM yX5_hasStretch cX5_hasStretch 3 (some .boolean))) := wgV wA_458 wA_459 wA_460 wA_51 wA_461
theorem gl_X9_160 : GoodIn wsA (wsV RX9 160 RX5 yX5_isWhole (wsM yX5_isWhole cX5_isWhole 4 (some .boolean))) := wgV wA_462 wA_368 wA_369 wA_51 wA_370
theorem gl_X5_121 : GoodIn wsA (wsV RX5 121 RX1 yX1_touchWith (wsM yX1_touchWith cX1_touchWith 2 none)) := wgV wA_475 wA_476 wA_477 wA_52 wA_478
theorem gl_X9_163 : GoodIn wsA (wsV RX9 163 RX5 yX5_touchAt (wsM yX5_touchAt cX5_touchAt 2 none)) := wgV wA_471 wA_472 wA_473 wA_51 wA_474
theorem gl_X6_60 : GoodIn wsA (wsV RX6 60 RX1 yX1_likely (wsM yX1_likely cX1_likely 2 (some .int))) := wgV wA_499 wA_397 wA_398 wA_52 wA_399
theorem gl_X6_30 : GoodIn wsA (va_wsS RX6 30 yX6_weightOf (wsM yX6_weightOf cX6_weightOf 5 (some .int))) := wgS wA_496 wA_497 wA_57 wA_498
theorem gl_X6_34 : GoodIn wsA (wsV RX6 34 RX6 yX6_costOf (wsM yX6_costOf cX6_costOf 10 (some .int))) := wgV wA_500 wA_502 wA_10 wA_57 wA_503
theorem gl_X6_38 : GoodIn wsA (wsV RX6 38 RX6 yX6_leastOf (wsM yX6_leastOf cX6_leastOf 8 (some .int))) := wgV wA_492 wA_494 wA_9 wA_57 wA_495
theorem gl_X6_16 : GoodIn wsA (wsV RX6 16 RX5 yX5_hasStretch (wsM yX5_hasStretch cX5_hasStretch 3 (some .boolean))) := wgV wA_487 wA_459 wA_460 wA_51 wA_461
theorem gl_X6_22 : GoodIn wsA (wsV RX6 22 RX6 yX6_fill (wsM yX6_fill cX6_fill 7 none)) := wgV wA_488 wA_490 wA_8 wA_57 wA_491
theorem gl_X9_166 : GoodIn wsA (wsV RX9 166 RX6 yX6_leastCost (wsM yX6_leastCost cX6_leastCost 5 (some .int))) := wgV wA_483 wA_484 wA_485 wA_57 wA_486
theorem gl_X6_26 : GoodIn wsA (wsV RX6 26 RX6 yX6_leastCost (wsM yX6_leastCost cX6_leastCost 5 (some .int))) := wgV wA_516 wA_484 wA_485 wA_57 wA_486
theorem gl_X9_170 : GoodIn wsA (wsV RX9 170 RX6 yX6_bestPlace (wsM yX6_bestPlace cX6_bestPlace 8 (some .int))) := wgV wA_512 wA_513 wA_514 wA_57 wA_515
theorem gl_X8_34 : GoodIn wsA (wsV RX8 34 RX1 yX1_likely (wsM yX1_likely cX1_likely 2 (some .int))) := wgV wA_528 wA_397 wA_398 wA_52 wA_399
theorem gl_X8_25 : GoodIn wsA (va_wsS RX8 25 yX8_comesFirst (wsM yX8_comesFirst cX8_comesFirst 2 (some .boolean))) := wgS wA_525 wA_526 wA_58 wA_527
theorem gl_X9_173 : GoodIn wsA (wsV RX9 173 RX8 yX8_arrange (wsM yX8_arrange cX8_arrange 4 none)) := wgV wA_521 wA_522 wA_523 wA_58 wA_524
theorem gl_X9_180 : GoodIn wsA (wsV RX9 180 RX8 yX8_cost (wsM yX8_cost cX8_cost 6 (some .int))) := wgV wA_533 wA_534 wA_535 wA_58 wA_536
theorem gl_X9_184 : GoodIn wsA (wsV RX9 184 RX3 yX3_add (wsM yX3_add cX3_add 3 none)) := wgV wA_541 wA_542 wA_543 wA_56 wA_544
theorem gl_X9_187 : GoodIn wsA (wsV RX9 187 RX3 yX3_leftAfter (wsM yX3_leftAfter cX3_leftAfter 6 (some .int))) := wgV wA_549 wA_550 wA_551 wA_56 wA_552
theorem gl_X3_22 : GoodIn wsA (wsV RX3 22 RX3 yX3_leftAfter (wsM yX3_leftAfter cX3_leftAfter 6 (some .int))) := wgV wA_561 wA_550 wA_551 wA_56 wA_552
theorem gl_X9_191 : GoodIn wsA (wsV RX9 191 RX3 yX3_firstThatLeavesNone (wsM yX3_firstThatLeavesNone cX3_firstThatLeavesNone 3 (some .int))) := wgV wA_557 wA_558 wA_559 wA_56 wA_560
theorem gl_X4_22 : GoodIn wsA (wsV RX4 22 RX4 yX4_startFrom (wsM yX4_startFrom cX4_startFrom 2 (some (.object "OneLampAllOut$Row")))) := wgV wA_570 wA_302 wA_303 wA_53 wA_304
theorem gl_X4_26 : GoodIn wsA (wsV RX4 26 RX5 yX5_isLive (wsM yX5_isLive cX5_isLive 1 (some .boolean))) := wgV wA_571 wA_364 wA_365 wA_51 wA_366
theorem gl_X4_30 : GoodIn wsA (wsV RX4 30 RX5 yX5_passHour (wsM yX5_passHour cX5_passHour 7 (some .int))) := wgV wA_572 wA_423 wA_424 wA_51 wA_425
theorem gl_X9_194 : GoodIn wsA (wsV RX9 194 RX4 yX4_hoursTillDark (wsM yX4_hoursTillDark cX4_hoursTillDark 3 (some .int))) := wgV wA_566 wA_567 wA_568 wA_53 wA_569
theorem gl_X4_46 : GoodIn wsA (wsV RX4 46 RX1 yX1_isWell (wsM yX1_isWell cX1_isWell 1 (some .boolean))) := wgV wA_585 wA_392 wA_393 wA_52 wA_394
theorem gl_X4_34 : GoodIn wsA (wsV RX4 34 RX4 yX4_firstGone (wsM yX4_firstGone cX4_firstGone 3 (some .int))) := wgV wA_581 wA_583 wA_11 wA_53 wA_584
theorem gl_X9_197 : GoodIn wsA (wsV RX9 197 RX4 yX4_firstToGo (wsM yX4_firstToGo cX4_firstToGo 5 (some .int))) := wgV wA_577 wA_578 wA_579 wA_53 wA_580
theorem gl_X4_51 : GoodIn wsA (wsV RX4 51 RX5 yX5_howMany (wsM yX5_howMany cX5_howMany 4 (some .int))) := wgV wA_594 wA_595 wA_596 wA_51 wA_597
theorem gl_X9_201 : GoodIn wsA (wsV RX9 201 RX4 yX4_hoursTillBridged (wsM yX4_hoursTillBridged cX4_hoursTillBridged 4 (some .int))) := wgV wA_590 wA_591 wA_592 wA_53 wA_593
theorem gl_X9_205 : GoodIn wsA (wsV RX9 205 RX5 yX5_bridgedAboveLimit (wsM yX5_bridgedAboveLimit cX5_bridgedAboveLimit 2 (some .int))) := wgV wA_602 wA_603 wA_604 wA_51 wA_605
theorem gl_X5_105 : GoodIn wsA (wsV RX5 105 RX5 yX5_flowNow (wsM yX5_flowNow cX5_flowNow 1 (some .int))) := wgV wA_618 wA_360 wA_361 wA_51 wA_362
theorem gl_X5_108 : GoodIn wsA (wsV RX5 108 RX1 yX1_brightAt (wsM yX1_brightAt cX1_brightAt 2 (some .int))) := wgV wA_619 wA_388 wA_389 wA_52 wA_390
theorem gl_X4_55 : GoodIn wsA (wsV RX4 55 RX5 yX5_allBright (wsM yX5_allBright cX5_allBright 4 (some .int))) := wgV wA_614 wA_615 wA_616 wA_51 wA_617
theorem gl_X9_208 : GoodIn wsA (wsV RX9 208 RX4 yX4_lightOf (wsM yX4_lightOf cX4_lightOf 5 (some .int))) := wgV wA_610 wA_611 wA_612 wA_53 wA_613
theorem gl_X5_124 : GoodIn wsA (wsV RX5 124 RX1 yX1_putAnew (wsM yX1_putAnew cX1_putAnew 1 none)) := wgV wA_632 wA_330 wA_331 wA_52 wA_332
theorem gl_X4_58 : GoodIn wsA (wsV RX4 58 RX5 yX5_mendAll (wsM yX5_mendAll cX5_mendAll 3 (some .int))) := wgV wA_628 wA_629 wA_630 wA_51 wA_631
theorem gl_X9_211 : GoodIn wsA (wsV RX9 211 RX4 yX4_sparesTaken (wsM yX4_sparesTaken cX4_sparesTaken 5 (some .int))) := wgV wA_624 wA_625 wA_626 wA_53 wA_627
theorem gl_X4_65 : GoodIn wsA (wsV RX4 65 RX5 yX5_putAllAnew (wsM yX5_putAllAnew cX5_putAllAnew 2 none)) := wgV wA_645 wA_646 wA_647 wA_51 wA_648
theorem gl_X4_61 : GoodIn wsA (wsV RX4 61 RX4 yX4_staysLive (wsM yX4_staysLive cX4_staysLive 4 (some .boolean))) := wgV wA_641 wA_643 wA_12 wA_53 wA_644
theorem gl_X9_214 : GoodIn wsA (wsV RX9 214 RX4 yX4_greatestAnew (wsM yX4_greatestAnew cX4_greatestAnew 3 (some .int))) := wgV wA_637 wA_638 wA_639 wA_53 wA_640
theorem gl_X9_217 : GoodIn wsA (wsV RX9 217 RX5 yX5_stringsWithinLimit (wsM yX5_stringsWithinLimit cX5_stringsWithinLimit 1 (some .int))) := wgV wA_653 wA_654 wA_655 wA_51 wA_656
theorem gl_X0_33 : GoodIn wsA (va_wsS RX0 33 yX0_greatestShared (wsM yX0_greatestShared cX0_greatestShared 11 (some .long))) := wgS wA_669 wA_670 wA_61 wA_671
theorem gl_X0_19 : GoodIn wsA (wsV RX0 19 RX1 yX1_likely (wsM yX1_likely cX1_likely 2 (some .int))) := wgV wA_666 wA_397 wA_398 wA_52 wA_399
theorem gl_X9_222 : GoodIn wsA (va_wsS RX9 222 yX0_ofTwo (wsM yX0_ofTwo cX0_ofTwo 14 (some .long))) := wgS wA_663 wA_664 wA_61 wA_665
theorem gl_X4_69 : GoodIn wsA (va_wsS RX4 69 yX4_drawBelow (wsM yX4_drawBelow cX4_drawBelow 2 (some .int))) := wgS wA_681 wA_682 wA_53 wA_683
theorem gl_X4_73 : GoodIn wsA (wsV RX4 73 RX5 yX5_touchAt (wsM yX5_touchAt cX5_touchAt 2 none)) := wgV wA_686 wA_472 wA_473 wA_51 wA_474
theorem gl_X9_228 : GoodIn wsA (wsV RX9 228 RX4 yX4_wellAfterTouches (wsM yX4_wellAfterTouches cX4_wellAfterTouches 6 (some .int))) := wgV wA_676 wA_677 wA_678 wA_53 wA_679
theorem gl_X9_236 : GoodIn wsA (wsV RX9 236 RX5 yX5_howMany (wsM yX5_howMany cX5_howMany 4 (some .int))) := wgV wA_699 wA_595 wA_596 wA_51 wA_597
theorem gl_X9_239 : GoodIn wsA (wsV RX9 239 RX5 yX5_allHurt (wsM yX5_allHurt cX5_allHurt 3 (some .int))) := wgV wA_700 wA_701 wA_702 wA_51 wA_703
theorem gl_X9_242 : GoodIn wsA (wsV RX9 242 RX9 yX9_refusalsOf (wsM yX9_refusalsOf cX9_refusalsOf 2 (some .int))) := wgV wA_704 wA_706 wA_13 wA_50 wA_707
theorem gl_X10_76 : GoodIn wsA (va_wsS RX10 76 yX10_bound (wsM yX10_bound cX10_bound 3 (some .int))) := wgS wA_812 wA_813 wA_59 wA_814
theorem gl_X10_83 : GoodIn wsA (wsV RX10 83 RX10 yX10_no (wsM yX10_no cX10_no 2 (some .int))) := wgV wA_815 wA_817 wA_14 wA_59 wA_818
theorem gl_X10_90 : GoodIn wsA (wsV RX10 90 RX10 yX10_nextLetter (wsM yX10_nextLetter cX10_nextLetter 1 (some .int))) := wgV wA_827 wA_829 wA_16 wA_59 wA_830
theorem gl_X10_94 : GoodIn wsA (va_wsS RX10 94 yX10_isIn (wsM yX10_isIn cX10_isIn 3 (some .boolean))) := wgS wA_835 wA_836 wA_59 wA_837
theorem gl_X10_101 : GoodIn wsA (wsV RX10 101 RX10 yX10_reads (wsM yX10_reads cX10_reads 5 (some .boolean))) := wgV wA_831 wA_833 wA_17 wA_59 wA_834
theorem gl_X10_105 : GoodIn wsA (wsV RX10 105 RX10 yX10_isNext (wsM yX10_isNext cX10_isNext 2 (some .boolean))) := wgV wA_838 wA_840 wA_18 wA_59 wA_841
theorem gl_X10_109 : GoodIn wsA (wsV RX10 109 RX10 yX10_comesLamp (wsM yX10_comesLamp cX10_comesLamp 2 (some .boolean))) := wgV wA_858 wA_860 wA_23 wA_59 wA_861
theorem gl_X10_112 : GoodIn wsA (wsV RX10 112 RX10 yX10_isLamp (wsM yX10_isLamp cX10_isLamp 2 (some .boolean))) := wgV wA_862 wA_864 wA_24 wA_59 wA_865
theorem gl_X10_133 : GoodIn wsA (wsV RX10 133 RX10 yX10_passes (wsM yX10_passes cX10_passes 3 none)) := wgV wA_846 wA_848 wA_20 wA_59 wA_849
theorem gl_X10_137 : GoodIn wsA (wsV RX10 137 RX10 yX10_passOne (wsM yX10_passOne cX10_passOne 3 (some .int))) := wgV wA_850 wA_852 wA_21 wA_59 wA_853
theorem gl_X10_119 : GoodIn wsA (wsV RX10 119 RX10 yX10_passesAll (wsM yX10_passesAll cX10_passesAll 3 none)) := wgV wA_842 wA_844 wA_19 wA_59 wA_845
theorem gl_X10_123 : GoodIn wsA (wsV RX10 123 RX10 yX10_comes (wsM yX10_comes cX10_comes 3 (some .boolean))) := wgV wA_854 wA_856 wA_22 wA_59 wA_857
theorem gl_X10_115 : GoodIn wsA (wsV RX10 115 RX10 yX10_statement (wsM yX10_statement cX10_statement 3 (some .boolean))) := wgV wA_823 wA_825 wA_15 wA_59 wA_826
theorem gl_X10_146 : GoodIn wsA (wsV RX10 146 RX10 yX10_dragOf (wsM yX10_dragOf cX10_dragOf 2 (some .int))) := wgV wA_878 wA_880 wA_25 wA_59 wA_881
theorem gl_X10_149 : GoodIn wsA (wsV RX10 149 RX10 yX10_isWhole (wsM yX10_isWhole cX10_isWhole 4 (some .boolean))) := wgV wA_890 wA_892 wA_28 wA_59 wA_893
theorem gl_X10_152 : GoodIn wsA (wsV RX10 152 RX10 yX10_drags (wsM yX10_drags cX10_drags 3 (some .int))) := wgV wA_894 wA_896 wA_29 wA_59 wA_897
theorem gl_X10_155 : GoodIn wsA (wsV RX10 155 RX10 yX10_isLive (wsM yX10_isLive cX10_isLive 1 (some .boolean))) := wgV wA_886 wA_888 wA_27 wA_59 wA_889
theorem gl_X10_158 : GoodIn wsA (va_wsS RX10 158 yX10_least (wsM yX10_least cX10_least 2 (some .int))) := wgS wA_898 wA_899 wA_59 wA_900
theorem gl_X10_162 : GoodIn wsA (wsV RX10 162 RX10 yX10_doesBridge (wsM yX10_doesBridge cX10_doesBridge 2 (some .boolean))) := wgV wA_909 wA_911 wA_32 wA_59 wA_912
theorem gl_X10_165 : GoodIn wsA (wsV RX10 165 RX10 yX10_isLoose (wsM yX10_isLoose cX10_isLoose 2 (some .boolean))) := wgV wA_913 wA_915 wA_33 wA_59 wA_916
theorem gl_X10_168 : GoodIn wsA (wsV RX10 168 RX10 yX10_flowNow (wsM yX10_flowNow cX10_flowNow 1 (some .int))) := wgV wA_882 wA_884 wA_26 wA_59 wA_885
theorem gl_X10_171 : GoodIn wsA (wsV RX10 171 RX10 yX10_brightBy (wsM yX10_brightBy cX10_brightBy 3 (some .int))) := wgV wA_901 wA_903 wA_30 wA_59 wA_904
theorem gl_X10_174 : GoodIn wsA (wsV RX10 174 RX10 yX10_likelyOf (wsM yX10_likelyOf cX10_likelyOf 2 (some .int))) := wgV wA_905 wA_907 wA_31 wA_59 wA_908
theorem gl_X10_186 : GoodIn wsA (wsV RX10 186 RX10 yX10_doesHang (wsM yX10_doesHang cX10_doesHang 2 (some .boolean))) := wgV wA_941 wA_943 wA_36 wA_59 wA_944
theorem gl_X10_183 : GoodIn wsA (wsV RX10 183 RX10 yX10_doesDie (wsM yX10_doesDie cX10_doesDie 3 (some .boolean))) := wgV wA_937 wA_939 wA_35 wA_59 wA_940
theorem gl_X10_189 : GoodIn wsA (wsV RX10 189 RX10 yX10_goesHour (wsM yX10_goesHour cX10_goesHour 5 (some .int))) := wgV wA_933 wA_935 wA_34 wA_59 wA_936
theorem gl_X10_192 : GoodIn wsA (wsV RX10 192 RX10 yX10_putsAnew (wsM yX10_putsAnew cX10_putsAnew 2 none)) := wgV wA_949 wA_951 wA_37 wA_59 wA_952
theorem gl_X10_196 : GoodIn wsA (wsV RX10 196 RX10 yX10_areLamps (wsM yX10_areLamps cX10_areLamps 3 (some .boolean))) := wgV wA_957 wA_959 wA_38 wA_59 wA_960
theorem gl_X10_199 : GoodIn wsA (wsV RX10 199 RX10 yX10_touches (wsM yX10_touches cX10_touches 2 none)) := wgV wA_969 wA_971 wA_39 wA_59 wA_972
theorem gl_X10_202 : GoodIn wsA (wsV RX10 202 RX10 yX10_weightOf (wsM yX10_weightOf cX10_weightOf 5 (some .int))) := wgV wA_985 wA_987 wA_42 wA_59 wA_988
theorem gl_X10_205 : GoodIn wsA (wsV RX10 205 RX10 yX10_findStretch (wsM yX10_findStretch cX10_findStretch 10 none)) := wgV wA_981 wA_983 wA_41 wA_59 wA_984
theorem gl_X10_209 : GoodIn wsA (wsV RX10 209 RX10 yX10_findStretches (wsM yX10_findStretches cX10_findStretches 3 none)) := wgV wA_977 wA_979 wA_40 wA_59 wA_980
theorem gl_X10_212 : GoodIn wsA (wsV RX10 212 RX10 yX10_findOrder (wsM yX10_findOrder cX10_findOrder 3 none)) := wgV wA_997 wA_999 wA_43 wA_59 wA_1000
theorem gl_X10_218 : GoodIn wsA (wsV RX10 218 RX10 yX10_openBy (wsM yX10_openBy cX10_openBy 6 (some .int))) := wgV wA_1013 wA_1015 wA_44 wA_59 wA_1016
theorem gl_X10_227 : GoodIn wsA (wsV RX10 227 RX10 yX10_findNext (wsM yX10_findNext cX10_findNext 4 none)) := wgV wA_1029 wA_1031 wA_45 wA_59 wA_1032
theorem gl_X10_230 : GoodIn wsA (wsV RX10 230 RX10 yX10_stateMany (wsM yX10_stateMany cX10_stateMany 4 (some .int))) := wgV wA_1037 wA_1039 wA_46 wA_59 wA_1040
theorem gl_X10_233 : GoodIn wsA (wsV RX10 233 RX10 yX10_isLiveBy (wsM yX10_isLiveBy cX10_isLiveBy 5 (some .boolean))) := wgV wA_1057 wA_1059 wA_47 wA_59 wA_1060
theorem gl_X10_242 : GoodIn wsA (va_wsS RX10 242 yX10_divisor (wsM yX10_divisor cX10_divisor 10 (some .long))) := wgS wA_1075 wA_1076 wA_59 wA_1077
theorem gl_X10_236 : GoodIn wsA (wsV RX10 236 RX10 yX10_lowest (wsM yX10_lowest cX10_lowest 2 (some .long))) := wgV wA_1069 wA_1071 wA_48 wA_59 wA_1072
