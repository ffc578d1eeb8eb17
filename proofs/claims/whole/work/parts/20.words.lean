theorem goodL (ws : List Cond) (is : List Nat) (h : is.filterMap (fun i => tables_1[i]?) = ws) (hg : ws.all goodWord = true) : ∀ w ∈ ws, w ∈ BIG := fun w hw => by
  refine List.mem_filter.mpr ⟨?_, List.all_eq_true.mp hg w hw⟩
  rw [← h] at hw
  obtain ⟨i, -, hi⟩ := List.mem_filterMap.mp hw
  exact List.mem_append_right _ (List.mem_of_getElem? hi)
theorem goodA (ws : List Cond) (is : List Nat) (h : is.filterMap (fun i => tables_1[i]?) = ws) (hg : ws.all (fun w => goodWord w || nw w) = true) : ∀ w ∈ ws, w ∈ BIG ∨ w ∈ NW := fun w hw => by
  have h1 := List.all_eq_true.mp hg w hw
  rw [← h] at hw
  obtain ⟨i, -, hi⟩ := List.mem_filterMap.mp hw
  have h2 : w ∈ lw_tbl := List.mem_append_right _ (List.mem_of_getElem? hi)
  rcases Bool.or_eq_true _ _ |>.mp h1 with h3 | h3
  · exact Or.inl (List.mem_filter.mpr ⟨h2, h3⟩)
  · exact Or.inr (List.mem_filter.mpr ⟨h2, h3⟩)
theorem goodW {w : Cond} (i : Nat) (h : tables_1[i]? = some w) (hg : goodWord w = true) : w ∈ BIG := List.mem_filter.mpr ⟨List.mem_append_right _ (List.mem_of_getElem? h), hg⟩
theorem goodN {w : Cond} (i : Nat) (h : tables_1[i]? = some w) (hg : nw w = true) : w ∈ NW := List.mem_filter.mpr ⟨List.mem_append_right _ (List.mem_of_getElem? h), hg⟩
theorem goodS {w : Cond} (i : Nat) (h : (k2_sels lw_privs)[i]? = some w) (hg : goodWord w = true) : w ∈ BIG := List.mem_filter.mpr ⟨List.mem_append_left _ (List.mem_of_getElem? h), hg⟩
theorem tk_1 {w : Cond} (h : w ∈ tables_1_1) : w ∈ tables_1 := List.mem_append_left _ h
theorem gdW1 {w : Cond} (i : Nat) (h : tables_1_1[i]? = some w) (hg : goodWord w = true) : w ∈ BIG := List.mem_filter.mpr ⟨List.mem_append_right _ (tk_1 (List.mem_of_getElem? h)), hg⟩
theorem gdN1 {w : Cond} (i : Nat) (h : tables_1_1[i]? = some w) (hg : nw w = true) : w ∈ NW := List.mem_filter.mpr ⟨List.mem_append_right _ (tk_1 (List.mem_of_getElem? h)), hg⟩
theorem tk_2 {w : Cond} (h : w ∈ tables_1_2) : w ∈ tables_1 := List.mem_append_right _ (List.mem_append_left _ h)
theorem gdW2 {w : Cond} (i : Nat) (h : tables_1_2[i]? = some w) (hg : goodWord w = true) : w ∈ BIG := List.mem_filter.mpr ⟨List.mem_append_right _ (tk_2 (List.mem_of_getElem? h)), hg⟩
theorem gdN2 {w : Cond} (i : Nat) (h : tables_1_2[i]? = some w) (hg : nw w = true) : w ∈ NW := List.mem_filter.mpr ⟨List.mem_append_right _ (tk_2 (List.mem_of_getElem? h)), hg⟩
theorem tk_3 {w : Cond} (h : w ∈ tables_1_3) : w ∈ tables_1 := List.mem_append_right _ (List.mem_append_right _ (List.mem_append_left _ h))
theorem gdW3 {w : Cond} (i : Nat) (h : tables_1_3[i]? = some w) (hg : goodWord w = true) : w ∈ BIG := List.mem_filter.mpr ⟨List.mem_append_right _ (tk_3 (List.mem_of_getElem? h)), hg⟩
theorem gdN3 {w : Cond} (i : Nat) (h : tables_1_3[i]? = some w) (hg : nw w = true) : w ∈ NW := List.mem_filter.mpr ⟨List.mem_append_right _ (tk_3 (List.mem_of_getElem? h)), hg⟩
theorem tk_4 {w : Cond} (h : w ∈ tables_1_4) : w ∈ tables_1 := List.mem_append_right _ (List.mem_append_right _ (List.mem_append_right _ (List.mem_append_left _ h)))
theorem gdW4 {w : Cond} (i : Nat) (h : tables_1_4[i]? = some w) (hg : goodWord w = true) : w ∈ BIG := List.mem_filter.mpr ⟨List.mem_append_right _ (tk_4 (List.mem_of_getElem? h)), hg⟩
theorem gdN4 {w : Cond} (i : Nat) (h : tables_1_4[i]? = some w) (hg : nw w = true) : w ∈ NW := List.mem_filter.mpr ⟨List.mem_append_right _ (tk_4 (List.mem_of_getElem? h)), hg⟩
theorem tk_5 {w : Cond} (h : w ∈ tables_1_5) : w ∈ tables_1 := List.mem_append_right _ (List.mem_append_right _ (List.mem_append_right _ (List.mem_append_right _ (List.mem_append_left _ h))))
theorem gdW5 {w : Cond} (i : Nat) (h : tables_1_5[i]? = some w) (hg : goodWord w = true) : w ∈ BIG := List.mem_filter.mpr ⟨List.mem_append_right _ (tk_5 (List.mem_of_getElem? h)), hg⟩
theorem gdN5 {w : Cond} (i : Nat) (h : tables_1_5[i]? = some w) (hg : nw w = true) : w ∈ NW := List.mem_filter.mpr ⟨List.mem_append_right _ (tk_5 (List.mem_of_getElem? h)), hg⟩
theorem tk_6 {w : Cond} (h : w ∈ tables_1_6) : w ∈ tables_1 := List.mem_append_right _ (List.mem_append_right _ (List.mem_append_right _ (List.mem_append_right _ (List.mem_append_right _ (List.mem_append_left _ h)))))
theorem gdW6 {w : Cond} (i : Nat) (h : tables_1_6[i]? = some w) (hg : goodWord w = true) : w ∈ BIG := List.mem_filter.mpr ⟨List.mem_append_right _ (tk_6 (List.mem_of_getElem? h)), hg⟩
theorem gdN6 {w : Cond} (i : Nat) (h : tables_1_6[i]? = some w) (hg : nw w = true) : w ∈ NW := List.mem_filter.mpr ⟨List.mem_append_right _ (tk_6 (List.mem_of_getElem? h)), hg⟩
theorem tk_7 {w : Cond} (h : w ∈ tables_1_7) : w ∈ tables_1 := List.mem_append_right _ (List.mem_append_right _ (List.mem_append_right _ (List.mem_append_right _ (List.mem_append_right _ (List.mem_append_right _ (List.mem_append_left _ h))))))
theorem gdW7 {w : Cond} (i : Nat) (h : tables_1_7[i]? = some w) (hg : goodWord w = true) : w ∈ BIG := List.mem_filter.mpr ⟨List.mem_append_right _ (tk_7 (List.mem_of_getElem? h)), hg⟩
theorem gdN7 {w : Cond} (i : Nat) (h : tables_1_7[i]? = some w) (hg : nw w = true) : w ∈ NW := List.mem_filter.mpr ⟨List.mem_append_right _ (tk_7 (List.mem_of_getElem? h)), hg⟩
theorem tk_8 {w : Cond} (h : w ∈ tables_1_8) : w ∈ tables_1 := List.mem_append_right _ (List.mem_append_right _ (List.mem_append_right _ (List.mem_append_right _ (List.mem_append_right _ (List.mem_append_right _ (List.mem_append_right _ (List.mem_append_left _ h)))))))
theorem gdW8 {w : Cond} (i : Nat) (h : tables_1_8[i]? = some w) (hg : goodWord w = true) : w ∈ BIG := List.mem_filter.mpr ⟨List.mem_append_right _ (tk_8 (List.mem_of_getElem? h)), hg⟩
theorem gdN8 {w : Cond} (i : Nat) (h : tables_1_8[i]? = some w) (hg : nw w = true) : w ∈ NW := List.mem_filter.mpr ⟨List.mem_append_right _ (tk_8 (List.mem_of_getElem? h)), hg⟩
theorem tk_9 {w : Cond} (h : w ∈ tables_1_9) : w ∈ tables_1 := List.mem_append_right _ (List.mem_append_right _ (List.mem_append_right _ (List.mem_append_right _ (List.mem_append_right _ (List.mem_append_right _ (List.mem_append_right _ (List.mem_append_right _ (List.mem_append_left _ h))))))))
theorem gdW9 {w : Cond} (i : Nat) (h : tables_1_9[i]? = some w) (hg : goodWord w = true) : w ∈ BIG := List.mem_filter.mpr ⟨List.mem_append_right _ (tk_9 (List.mem_of_getElem? h)), hg⟩
theorem gdN9 {w : Cond} (i : Nat) (h : tables_1_9[i]? = some w) (hg : nw w = true) : w ∈ NW := List.mem_filter.mpr ⟨List.mem_append_right _ (tk_9 (List.mem_of_getElem? h)), hg⟩
theorem tk_10 {w : Cond} (h : w ∈ tables_1_10) : w ∈ tables_1 := List.mem_append_right _ (List.mem_append_right _ (List.mem_append_right _ (List.mem_append_right _ (List.mem_append_right _ (List.mem_append_right _ (List.mem_append_right _ (List.mem_append_right _ (List.mem_append_right _ (h)))))))))
theorem gdW10 {w : Cond} (i : Nat) (h : tables_1_10[i]? = some w) (hg : goodWord w = true) : w ∈ BIG := List.mem_filter.mpr ⟨List.mem_append_right _ (tk_10 (List.mem_of_getElem? h)), hg⟩
theorem gdN10 {w : Cond} (i : Nat) (h : tables_1_10[i]? = some w) (hg : nw w = true) : w ∈ NW := List.mem_filter.mpr ⟨List.mem_append_right _ (tk_10 (List.mem_of_getElem? h)), hg⟩
theorem bw_1 : (Jvm.Cond.initialized "TollClock") ∈ BIG := gdW1 1 (by decide +kernel) rfl
theorem bw_2 : (Jvm.Cond.initialized "TollClock$Text") ∈ BIG := gdW1 2 (by decide +kernel) rfl
theorem bw_3 : (Jvm.Cond.initialized "TollClock$Docket") ∈ BIG := gdW1 3 (by decide +kernel) rfl
theorem bw_4 : (Jvm.Cond.initialized "TollClock$Parties") ∈ BIG := gdW1 4 (by decide +kernel) rfl
theorem bw_5 : (Jvm.Cond.initialized "TollClock$Calendar") ∈ BIG := gdW1 5 (by decide +kernel) rfl
theorem bw_6 : (Jvm.Cond.initialized "TollClock$Rules") ∈ BIG := gdW1 6 (by decide +kernel) rfl
theorem bw_7 : (Jvm.Cond.initialized "TollClock$Deadlines") ∈ BIG := gdW1 7 (by decide +kernel) rfl
theorem bw_8 : (Jvm.Cond.initialized "TollClock$Stays") ∈ BIG := gdW1 8 (by decide +kernel) rfl
theorem bw_9 : (Jvm.Cond.initialized "TollClock$Claims") ∈ BIG := gdW1 9 (by decide +kernel) rfl
theorem bw_10 : (Jvm.Cond.initialized "TollClock$Weeks") ∈ BIG := gdW1 10 (by decide +kernel) rfl
theorem bw_11 : (Jvm.Cond.initialized "TollClock$Marks") ∈ BIG := gdW1 11 (by decide +kernel) rfl
theorem bw_12 : (Jvm.Cond.initialized "TollClock$Program") ∈ BIG := gdW1 12 (by decide +kernel) rfl
theorem bw_13 : (Jvm.Cond.initialized "TollClockModel") ∈ BIG := gdW1 13 (by decide +kernel) rfl
theorem bw_17 : (Jvm.Cond.initialized "java/lang/IllegalStateException") ∈ BIG := gdW1 17 (by decide +kernel) rfl
theorem bw_18 : (Jvm.Cond.initialized "java/lang/System") ∈ BIG := gdW1 18 (by decide +kernel) rfl
theorem bw_19 : (Jvm.Cond.initialized "java/lang/IndexOutOfBoundsException") ∈ BIG := gdW1 19 (by decide +kernel) rfl
theorem bw_20 : (Jvm.Cond.initialized "java/lang/IllegalArgumentException") ∈ BIG := gdW1 20 (by decide +kernel) rfl
theorem bw_21 : (Jvm.Cond.initialized "java/lang/UnsupportedOperationException") ∈ BIG := gdW1 21 (by decide +kernel) rfl
theorem bw_22 : (Jvm.Cond.initialized "java/util/NoSuchElementException") ∈ BIG := gdW1 22 (by decide +kernel) rfl
theorem bw_23 : (Jvm.Cond.initialized "java/lang/Math") ∈ BIG := gdW1 23 (by decide +kernel) rfl
theorem bw_26 : (Jvm.Cond.initialized "java/lang/ArithmeticException") ∈ BIG := gdW1 26 (by decide +kernel) rfl
theorem bw_30 : (Jvm.Cond.classLink "TollClockLaw" (8 : Nat) "TollClock") ∈ BIG := gdW1 30 (by decide +kernel) rfl
theorem bw_31 : (Jvm.Cond.instantiable "TollClock" (13 : Nat)) ∈ BIG := gdW1 31 (by decide +kernel) rfl
theorem bw_32 : (Jvm.Cond.methodLink "TollClockLaw" (201 : Nat) ({ cls := "TollClock", name := "<init>", desc := "()V" } : Jvm.MethodName)) ∈ BIG := gdW1 32 (by decide +kernel) rfl
theorem bw_33 : (Jvm.Cond.instanceMethod ({ cls := "TollClock", name := "<init>", desc := "()V" } : Jvm.MethodName)) ∈ BIG := gdW1 33 (by decide +kernel) rfl
theorem bw_34 : (Jvm.Cond.code ({ cls := "TollClock", name := "<init>", desc := "()V" } : Jvm.MethodName) prog_1_method_1_code (1 : Nat) (Option.none : Option Jvm.ClassFile.FieldType)) ∈ BIG := gdW1 34 (by decide +kernel) rfl
theorem bw_38 : (Jvm.Cond.classLink "TollClock" (9 : Nat) "TollClock$Text") ∈ BIG := gdW1 38 (by decide +kernel) rfl
theorem bw_39 : (Jvm.Cond.instantiable "TollClock$Text" (2 : Nat)) ∈ BIG := gdW1 39 (by decide +kernel) rfl
theorem bw_41 : (Jvm.Cond.instanceMethod ({ cls := "TollClock$Text", name := "<init>", desc := "()V" } : Jvm.MethodName)) ∈ BIG := gdW1 41 (by decide +kernel) rfl
theorem bw_42 : (Jvm.Cond.code ({ cls := "TollClock$Text", name := "<init>", desc := "()V" } : Jvm.MethodName) prog_11_method_1_code (1 : Nat) (Option.none : Option Jvm.ClassFile.FieldType)) ∈ BIG := gdW1 42 (by decide +kernel) rfl
theorem bw_44 : (Jvm.Cond.fieldLink "TollClock$Text" (9 : Nat) "TollClock$Text" "signs" "[C") ∈ BIG := gdW1 44 (by decide +kernel) rfl
theorem bw_45 : (Jvm.Cond.fieldLink "TollClock$Text" (15 : Nat) "TollClock$Text" "length" "I") ∈ BIG := gdW1 45 (by decide +kernel) rfl
theorem bw_53 : (Jvm.Cond.arrayClass Jvm.ClassFile.FieldType.char) ∈ BIG := gdW1 53 (by decide +kernel) rfl
theorem bw_54 : (Jvm.Cond.classLink "TollClock" (23 : Nat) "TollClock$Docket") ∈ BIG := gdW1 54 (by decide +kernel) rfl
theorem bw_55 : (Jvm.Cond.instantiable "TollClock$Docket" (6 : Nat)) ∈ BIG := gdW1 55 (by decide +kernel) rfl
theorem bw_57 : (Jvm.Cond.instanceMethod ({ cls := "TollClock$Docket", name := "<init>", desc := "()V" } : Jvm.MethodName)) ∈ BIG := gdW1 57 (by decide +kernel) rfl
theorem bw_58 : (Jvm.Cond.code ({ cls := "TollClock$Docket", name := "<init>", desc := "()V" } : Jvm.MethodName) prog_5_method_1_code (1 : Nat) (Option.none : Option Jvm.ClassFile.FieldType)) ∈ BIG := gdW1 58 (by decide +kernel) rfl
theorem bw_60 : (Jvm.Cond.classLink "TollClock$Docket" (7 : Nat) "TollClock$Parties") ∈ BIG := gdW1 60 (by decide +kernel) rfl
theorem bw_61 : (Jvm.Cond.instantiable "TollClock$Parties" (3 : Nat)) ∈ BIG := gdW1 61 (by decide +kernel) rfl
theorem bw_63 : (Jvm.Cond.instanceMethod ({ cls := "TollClock$Parties", name := "<init>", desc := "()V" } : Jvm.MethodName)) ∈ BIG := gdW1 63 (by decide +kernel) rfl
theorem bw_64 : (Jvm.Cond.code ({ cls := "TollClock$Parties", name := "<init>", desc := "()V" } : Jvm.MethodName) prog_7_method_1_code (1 : Nat) (Option.none : Option Jvm.ClassFile.FieldType)) ∈ BIG := gdW1 64 (by decide +kernel) rfl
theorem bw_66 : (Jvm.Cond.fieldLink "TollClock$Parties" (9 : Nat) "TollClock$Parties" "points" "[I") ∈ BIG := gdW1 66 (by decide +kernel) rfl
theorem bw_68 : (Jvm.Cond.fieldLink "TollClock$Parties" (15 : Nat) "TollClock$Parties" "lengths" "[I") ∈ BIG := gdW1 68 (by decide +kernel) rfl
theorem bw_70 : (Jvm.Cond.fieldLink "TollClock$Parties" (24 : Nat) "TollClock$Parties" "count" "I") ∈ BIG := gdW1 70 (by decide +kernel) rfl
theorem bw_79 : (Jvm.Cond.arrayClass Jvm.ClassFile.FieldType.int) ∈ BIG := gdW1 79 (by decide +kernel) rfl
theorem bw_80 : (Jvm.Cond.classLink "TollClock$Docket" (16 : Nat) "TollClock$Calendar") ∈ BIG := gdW1 80 (by decide +kernel) rfl
theorem bw_81 : (Jvm.Cond.instantiable "TollClock$Calendar" (3 : Nat)) ∈ BIG := gdW1 81 (by decide +kernel) rfl
theorem bw_83 : (Jvm.Cond.instanceMethod ({ cls := "TollClock$Calendar", name := "<init>", desc := "()V" } : Jvm.MethodName)) ∈ BIG := gdW1 83 (by decide +kernel) rfl
theorem bw_84 : (Jvm.Cond.code ({ cls := "TollClock$Calendar", name := "<init>", desc := "()V" } : Jvm.MethodName) prog_2_method_1_code (1 : Nat) (Option.none : Option Jvm.ClassFile.FieldType)) ∈ BIG := gdW1 84 (by decide +kernel) rfl
theorem bw_86 : (Jvm.Cond.fieldLink "TollClock$Calendar" (15 : Nat) "TollClock$Calendar" "today" "I") ∈ BIG := gdW1 86 (by decide +kernel) rfl
theorem bw_88 : (Jvm.Cond.fieldLink "TollClock$Calendar" (9 : Nat) "TollClock$Calendar" "holidays" "[I") ∈ BIG := gdW1 88 (by decide +kernel) rfl
theorem bw_91 : (Jvm.Cond.fieldLink "TollClock$Calendar" (25 : Nat) "TollClock$Calendar" "holidayCount" "I") ∈ BIG := gdW1 91 (by decide +kernel) rfl
theorem bw_100 : (Jvm.Cond.classLink "TollClock$Docket" (23 : Nat) "TollClock$Rules") ∈ BIG := gdW1 100 (by decide +kernel) rfl
theorem bw_101 : (Jvm.Cond.instantiable "TollClock$Rules" (3 : Nat)) ∈ BIG := gdW1 101 (by decide +kernel) rfl
theorem bw_102 : (Jvm.Cond.methodLink "TollClock$Docket" (25 : Nat) ({ cls := "TollClock$Rules", name := "<init>", desc := "()V" } : Jvm.MethodName)) ∈ BIG := gdW1 102 (by decide +kernel) rfl
theorem bw_103 : (Jvm.Cond.instanceMethod ({ cls := "TollClock$Rules", name := "<init>", desc := "()V" } : Jvm.MethodName)) ∈ BIG := gdW1 103 (by decide +kernel) rfl
theorem bw_104 : (Jvm.Cond.code ({ cls := "TollClock$Rules", name := "<init>", desc := "()V" } : Jvm.MethodName) prog_9_method_1_code (2 : Nat) (Option.none : Option Jvm.ClassFile.FieldType)) ∈ BIG := gdW1 104 (by decide +kernel) rfl
theorem bw_106 : (Jvm.Cond.fieldLink "TollClock$Rules" (9 : Nat) "TollClock$Rules" "lengths" "[I") ∈ BIG := gdW1 106 (by decide +kernel) rfl
theorem bw_109 : (Jvm.Cond.fieldLink "TollClock$Rules" (15 : Nat) "TollClock$Rules" "inCourtDays" "[Z") ∈ BIG := gdW1 109 (by decide +kernel) rfl
theorem bw_112 : (Jvm.Cond.fieldLink "TollClock$Rules" (19 : Nat) "TollClock$Rules" "serviceDays" "[I") ∈ BIG := gdW1 112 (by decide +kernel) rfl
theorem bw_121 : (Jvm.Cond.arrayClass Jvm.ClassFile.FieldType.boolean) ∈ BIG := gdW1 121 (by decide +kernel) rfl
theorem bw_122 : (Jvm.Cond.classLink "TollClock$Docket" (30 : Nat) "TollClock$Deadlines") ∈ BIG := gdW1 122 (by decide +kernel) rfl
theorem bw_123 : (Jvm.Cond.instantiable "TollClock$Deadlines" (12 : Nat)) ∈ BIG := gdW1 123 (by decide +kernel) rfl
theorem bw_125 : (Jvm.Cond.instanceMethod ({ cls := "TollClock$Deadlines", name := "<init>", desc := "()V" } : Jvm.MethodName)) ∈ BIG := gdW1 125 (by decide +kernel) rfl
theorem bw_126 : (Jvm.Cond.code ({ cls := "TollClock$Deadlines", name := "<init>", desc := "()V" } : Jvm.MethodName) prog_4_method_1_code (1 : Nat) (Option.none : Option Jvm.ClassFile.FieldType)) ∈ BIG := gdW1 126 (by decide +kernel) rfl
theorem bw_128 : (Jvm.Cond.fieldLink "TollClock$Deadlines" (9 : Nat) "TollClock$Deadlines" "parties" "[I") ∈ BIG := gdW1 128 (by decide +kernel) rfl
theorem bw_132 : (Jvm.Cond.fieldLink "TollClock$Deadlines" (15 : Nat) "TollClock$Deadlines" "rules" "[I") ∈ BIG := gdW1 132 (by decide +kernel) rfl
theorem bw_135 : (Jvm.Cond.fieldLink "TollClock$Deadlines" (18 : Nat) "TollClock$Deadlines" "startDays" "[I") ∈ BIG := gdW1 135 (by decide +kernel) rfl
theorem bw_138 : (Jvm.Cond.fieldLink "TollClock$Deadlines" (21 : Nat) "TollClock$Deadlines" "inCourtDays" "[Z") ∈ BIG := gdW1 138 (by decide +kernel) rfl
theorem bw_139 : (Jvm.Cond.fieldLink "TollClock$Deadlines" (25 : Nat) "TollClock$Deadlines" "partCounts" "[I") ∈ BIG := gdW1 139 (by decide +kernel) rfl
theorem bw_142 : (Jvm.Cond.fieldLink "TollClock$Deadlines" (28 : Nat) "TollClock$Deadlines" "parts" "[I") ∈ BIG := gdW1 142 (by decide +kernel) rfl
theorem bw_143 : (Jvm.Cond.fieldLink "TollClock$Deadlines" (31 : Nat) "TollClock$Deadlines" "consents" "[I") ∈ BIG := gdW1 143 (by decide +kernel) rfl
theorem bw_145 : (Jvm.Cond.fieldLink "TollClock$Deadlines" (34 : Nat) "TollClock$Deadlines" "consentDays" "[I") ∈ BIG := gdW1 145 (by decide +kernel) rfl
theorem bw_147 : (Jvm.Cond.fieldLink "TollClock$Deadlines" (37 : Nat) "TollClock$Deadlines" "orders" "[I") ∈ BIG := gdW1 147 (by decide +kernel) rfl
theorem bw_149 : (Jvm.Cond.fieldLink "TollClock$Deadlines" (40 : Nat) "TollClock$Deadlines" "grantedDays" "[I") ∈ BIG := gdW1 149 (by decide +kernel) rfl
theorem bw_151 : (Jvm.Cond.fieldLink "TollClock$Deadlines" (43 : Nat) "TollClock$Deadlines" "states" "[C") ∈ BIG := gdW1 151 (by decide +kernel) rfl
theorem bw_153 : (Jvm.Cond.fieldLink "TollClock$Deadlines" (53 : Nat) "TollClock$Deadlines" "count" "I") ∈ BIG := gdW1 153 (by decide +kernel) rfl
theorem bw_181 : (Jvm.Cond.classLink "TollClock$Docket" (37 : Nat) "TollClock$Stays") ∈ BIG := gdW1 181 (by decide +kernel) rfl
theorem bw_182 : (Jvm.Cond.instantiable "TollClock$Stays" (5 : Nat)) ∈ BIG := gdW1 182 (by decide +kernel) rfl
theorem bw_184 : (Jvm.Cond.instanceMethod ({ cls := "TollClock$Stays", name := "<init>", desc := "()V" } : Jvm.MethodName)) ∈ BIG := gdW1 184 (by decide +kernel) rfl
theorem bw_185 : (Jvm.Cond.code ({ cls := "TollClock$Stays", name := "<init>", desc := "()V" } : Jvm.MethodName) prog_10_method_1_code (1 : Nat) (Option.none : Option Jvm.ClassFile.FieldType)) ∈ BIG := gdW1 185 (by decide +kernel) rfl
theorem bw_187 : (Jvm.Cond.fieldLink "TollClock$Stays" (9 : Nat) "TollClock$Stays" "parties" "[I") ∈ BIG := gdW1 187 (by decide +kernel) rfl
theorem bw_188 : (Jvm.Cond.fieldLink "TollClock$Stays" (15 : Nat) "TollClock$Stays" "ruleSets" "[I") ∈ BIG := gdW1 188 (by decide +kernel) rfl
theorem bw_189 : (Jvm.Cond.fieldLink "TollClock$Stays" (18 : Nat) "TollClock$Stays" "orderDays" "[I") ∈ BIG := gdW1 189 (by decide +kernel) rfl
theorem bw_193 : (Jvm.Cond.fieldLink "TollClock$Stays" (21 : Nat) "TollClock$Stays" "lastDays" "[I") ∈ BIG := gdW1 193 (by decide +kernel) rfl
theorem bw_198 : (Jvm.Cond.fieldLink "TollClock$Stays" (30 : Nat) "TollClock$Stays" "count" "I") ∈ BIG := gdW1 198 (by decide +kernel) rfl
theorem bw_212 : (Jvm.Cond.classLink "TollClock$Docket" (44 : Nat) "TollClock$Claims") ∈ BIG := gdW1 212 (by decide +kernel) rfl
theorem bw_213 : (Jvm.Cond.instantiable "TollClock$Claims" (8 : Nat)) ∈ BIG := gdW1 213 (by decide +kernel) rfl
theorem bw_215 : (Jvm.Cond.instanceMethod ({ cls := "TollClock$Claims", name := "<init>", desc := "()V" } : Jvm.MethodName)) ∈ BIG := gdW1 215 (by decide +kernel) rfl
theorem bw_216 : (Jvm.Cond.code ({ cls := "TollClock$Claims", name := "<init>", desc := "()V" } : Jvm.MethodName) prog_3_method_1_code (1 : Nat) (Option.none : Option Jvm.ClassFile.FieldType)) ∈ BIG := gdW1 216 (by decide +kernel) rfl
theorem bw_218 : (Jvm.Cond.classLink "TollClock$Claims" (9 : Nat) "TollClock$Deadlines") ∈ BIG := gdW1 218 (by decide +kernel) rfl
theorem bw_220 : (Jvm.Cond.fieldLink "TollClock$Claims" (12 : Nat) "TollClock$Claims" "periods" "LTollClock$Deadlines;") ∈ BIG := gdW1 220 (by decide +kernel) rfl
theorem bw_222 : (Jvm.Cond.fieldLink "TollClock$Claims" (18 : Nat) "TollClock$Claims" "links" "[I") ∈ BIG := gdW1 222 (by decide +kernel) rfl
theorem bw_223 : (Jvm.Cond.fieldLink "TollClock$Claims" (22 : Nat) "TollClock$Claims" "groups" "[I") ∈ BIG := gdW1 223 (by decide +kernel) rfl
theorem bw_224 : (Jvm.Cond.fieldLink "TollClock$Claims" (25 : Nat) "TollClock$Claims" "parties" "[I") ∈ BIG := gdW1 224 (by decide +kernel) rfl
theorem bw_226 : (Jvm.Cond.fieldLink "TollClock$Claims" (28 : Nat) "TollClock$Claims" "occurrences" "[I") ∈ BIG := gdW1 226 (by decide +kernel) rfl
theorem bw_228 : (Jvm.Cond.fieldLink "TollClock$Claims" (31 : Nat) "TollClock$Claims" "fileDays" "[I") ∈ BIG := gdW1 228 (by decide +kernel) rfl
theorem bw_229 : (Jvm.Cond.fieldLink "TollClock$Claims" (34 : Nat) "TollClock$Claims" "amended" "[I") ∈ BIG := gdW1 229 (by decide +kernel) rfl
theorem bw_230 : (Jvm.Cond.fieldLink "TollClock$Claims" (47 : Nat) "TollClock$Claims" "count" "I") ∈ BIG := gdW1 230 (by decide +kernel) rfl
theorem bw_249 : (Jvm.Cond.fieldLink "TollClock$Docket" (10 : Nat) "TollClock$Docket" "parties" "LTollClock$Parties;") ∈ BIG := gdW2 9 (by decide +kernel) rfl
theorem bw_251 : (Jvm.Cond.fieldLink "TollClock$Docket" (19 : Nat) "TollClock$Docket" "calendar" "LTollClock$Calendar;") ∈ BIG := gdW2 11 (by decide +kernel) rfl
theorem bw_253 : (Jvm.Cond.fieldLink "TollClock$Docket" (26 : Nat) "TollClock$Docket" "rules" "LTollClock$Rules;") ∈ BIG := gdW2 13 (by decide +kernel) rfl
theorem bw_255 : (Jvm.Cond.fieldLink "TollClock$Docket" (33 : Nat) "TollClock$Docket" "deadlines" "LTollClock$Deadlines;") ∈ BIG := gdW2 15 (by decide +kernel) rfl
theorem bw_257 : (Jvm.Cond.fieldLink "TollClock$Docket" (40 : Nat) "TollClock$Docket" "stays" "LTollClock$Stays;") ∈ BIG := gdW2 17 (by decide +kernel) rfl
theorem bw_259 : (Jvm.Cond.fieldLink "TollClock$Docket" (47 : Nat) "TollClock$Docket" "claims" "LTollClock$Claims;") ∈ BIG := gdW2 19 (by decide +kernel) rfl
theorem bw_275 : (Jvm.Cond.classLink "TollClock" (34 : Nat) "TollClock$Weeks") ∈ BIG := gdW2 35 (by decide +kernel) rfl
theorem bw_276 : (Jvm.Cond.instantiable "TollClock$Weeks" (5 : Nat)) ∈ BIG := gdW2 36 (by decide +kernel) rfl
theorem bw_277 : (Jvm.Cond.methodLink "TollClock" (44 : Nat) ({ cls := "TollClock$Weeks", name := "<init>", desc := "(LTollClock$Calendar;LTollClock$Stays;)V" } : Jvm.MethodName)) ∈ BIG := gdW2 37 (by decide +kernel) rfl
theorem bw_278 : (Jvm.Cond.instanceMethod ({ cls := "TollClock$Weeks", name := "<init>", desc := "(LTollClock$Calendar;LTollClock$Stays;)V" } : Jvm.MethodName)) ∈ BIG := gdW2 38 (by decide +kernel) rfl
theorem bw_279 : (Jvm.Cond.code ({ cls := "TollClock$Weeks", name := "<init>", desc := "(LTollClock$Calendar;LTollClock$Stays;)V" } : Jvm.MethodName) prog_12_method_1_code (3 : Nat) (Option.none : Option Jvm.ClassFile.FieldType)) ∈ BIG := gdW2 39 (by decide +kernel) rfl
theorem bw_281 : (Jvm.Cond.fieldLink "TollClock$Weeks" (18 : Nat) "TollClock$Weeks" "calendar" "LTollClock$Calendar;") ∈ BIG := gdW2 41 (by decide +kernel) rfl
theorem bw_282 : (Jvm.Cond.fieldLink "TollClock$Weeks" (22 : Nat) "TollClock$Weeks" "stays" "LTollClock$Stays;") ∈ BIG := gdW2 42 (by decide +kernel) rfl
theorem bw_283 : (Jvm.Cond.fieldLink "TollClock$Weeks" (9 : Nat) "TollClock$Weeks" "firsts" "[I") ∈ BIG := gdW2 43 (by decide +kernel) rfl
theorem bw_284 : (Jvm.Cond.fieldLink "TollClock$Weeks" (15 : Nat) "TollClock$Weeks" "lasts" "[I") ∈ BIG := gdW2 44 (by decide +kernel) rfl
theorem bw_285 : (Jvm.Cond.fieldLink "TollClock$Weeks" (26 : Nat) "TollClock$Weeks" "ranges" "I") ∈ BIG := gdW2 45 (by decide +kernel) rfl
theorem bw_297 : (Jvm.Cond.classLink "TollClock" (51 : Nat) "TollClock$Marks") ∈ BIG := gdW2 57 (by decide +kernel) rfl
theorem bw_298 : (Jvm.Cond.instantiable "TollClock$Marks" (6 : Nat)) ∈ BIG := gdW2 58 (by decide +kernel) rfl
theorem bw_299 : (Jvm.Cond.methodLink "TollClock" (53 : Nat) ({ cls := "TollClock$Marks", name := "<init>", desc := "(LTollClock$Calendar;LTollClock$Stays;)V" } : Jvm.MethodName)) ∈ BIG := gdW2 59 (by decide +kernel) rfl
theorem bw_300 : (Jvm.Cond.instanceMethod ({ cls := "TollClock$Marks", name := "<init>", desc := "(LTollClock$Calendar;LTollClock$Stays;)V" } : Jvm.MethodName)) ∈ BIG := gdW2 60 (by decide +kernel) rfl
theorem bw_301 : (Jvm.Cond.code ({ cls := "TollClock$Marks", name := "<init>", desc := "(LTollClock$Calendar;LTollClock$Stays;)V" } : Jvm.MethodName) prog_6_method_1_code (3 : Nat) (Option.none : Option Jvm.ClassFile.FieldType)) ∈ BIG := gdW2 61 (by decide +kernel) rfl
theorem bw_303 : (Jvm.Cond.fieldLink "TollClock$Marks" (18 : Nat) "TollClock$Marks" "calendar" "LTollClock$Calendar;") ∈ BIG := gdW2 63 (by decide +kernel) rfl
theorem bw_304 : (Jvm.Cond.fieldLink "TollClock$Marks" (22 : Nat) "TollClock$Marks" "stays" "LTollClock$Stays;") ∈ BIG := gdW2 64 (by decide +kernel) rfl
theorem bw_305 : (Jvm.Cond.fieldLink "TollClock$Marks" (11 : Nat) "TollClock$Marks" "holidays" "[J") ∈ BIG := gdW2 65 (by decide +kernel) rfl
theorem bw_306 : (Jvm.Cond.fieldLink "TollClock$Marks" (15 : Nat) "TollClock$Marks" "stopped" "[J") ∈ BIG := gdW2 66 (by decide +kernel) rfl
theorem bw_307 : (Jvm.Cond.fieldLink "TollClock$Marks" (93 : Nat) "TollClock$Marks" "counted" "I") ∈ BIG := gdW2 67 (by decide +kernel) rfl
theorem bw_308 : (Jvm.Cond.fieldLink "TollClock$Marks" (90 : Nat) "TollClock$Marks" "end" "I") ∈ BIG := gdW2 68 (by decide +kernel) rfl
theorem bw_322 : (Jvm.Cond.arrayClass Jvm.ClassFile.FieldType.long) ∈ BIG := gdW2 82 (by decide +kernel) rfl
theorem bw_323 : (Jvm.Cond.classLink "TollClock" (61 : Nat) "TollClock$Program") ∈ BIG := gdW2 83 (by decide +kernel) rfl
theorem bw_324 : (Jvm.Cond.instantiable "TollClock$Program" (6 : Nat)) ∈ BIG := gdW2 84 (by decide +kernel) rfl
theorem bw_326 : (Jvm.Cond.instanceMethod ({ cls := "TollClock$Program", name := "<init>", desc := "()V" } : Jvm.MethodName)) ∈ BIG := gdW2 86 (by decide +kernel) rfl
theorem bw_327 : (Jvm.Cond.code ({ cls := "TollClock$Program", name := "<init>", desc := "()V" } : Jvm.MethodName) prog_8_method_1_code (1 : Nat) (Option.none : Option Jvm.ClassFile.FieldType)) ∈ BIG := gdW2 87 (by decide +kernel) rfl
theorem bw_329 : (Jvm.Cond.fieldLink "TollClock$Program" (9 : Nat) "TollClock$Program" "verbs" "[I") ∈ BIG := gdW2 89 (by decide +kernel) rfl
theorem bw_331 : (Jvm.Cond.fieldLink "TollClock$Program" (15 : Nat) "TollClock$Program" "firsts" "[I") ∈ BIG := gdW2 91 (by decide +kernel) rfl
theorem bw_333 : (Jvm.Cond.fieldLink "TollClock$Program" (18 : Nat) "TollClock$Program" "seconds" "[I") ∈ BIG := gdW2 93 (by decide +kernel) rfl
theorem bw_335 : (Jvm.Cond.fieldLink "TollClock$Program" (21 : Nat) "TollClock$Program" "ways" "[C") ∈ BIG := gdW2 95 (by decide +kernel) rfl
theorem bw_337 : (Jvm.Cond.fieldLink "TollClock$Program" (25 : Nat) "TollClock$Program" "count" "I") ∈ BIG := gdW2 97 (by decide +kernel) rfl
theorem bw_339 : (Jvm.Cond.fieldLink "TollClock$Program" (29 : Nat) "TollClock$Program" "at" "I") ∈ BIG := gdW2 99 (by decide +kernel) rfl
theorem bw_353 : (Jvm.Cond.fieldLink "TollClock" (12 : Nat) "TollClock" "buffer" "LTollClock$Text;") ∈ BIG := gdW2 113 (by decide +kernel) rfl
theorem bw_354 : (Jvm.Cond.fieldLink "TollClock" (16 : Nat) "TollClock" "line" "LTollClock$Text;") ∈ BIG := gdW2 114 (by decide +kernel) rfl
theorem bw_355 : (Jvm.Cond.fieldLink "TollClock" (19 : Nat) "TollClock" "name" "[I") ∈ BIG := gdW2 115 (by decide +kernel) rfl
theorem bw_356 : (Jvm.Cond.fieldLink "TollClock" (26 : Nat) "TollClock" "docket" "LTollClock$Docket;") ∈ BIG := gdW2 116 (by decide +kernel) rfl
theorem bw_357 : (Jvm.Cond.fieldLink "TollClock" (30 : Nat) "TollClock" "past" "[LTollClock$Docket;") ∈ BIG := gdW2 117 (by decide +kernel) rfl
theorem bw_358 : (Jvm.Cond.fieldLink "TollClock" (490 : Nat) "TollClock" "nextPast" "I") ∈ BIG := gdW2 118 (by decide +kernel) rfl
theorem bw_359 : (Jvm.Cond.fieldLink "TollClock" (485 : Nat) "TollClock" "undoable" "I") ∈ BIG := gdW2 119 (by decide +kernel) rfl
theorem bw_360 : (Jvm.Cond.fieldLink "TollClock" (47 : Nat) "TollClock" "weeks" "LTollClock$Weeks;") ∈ BIG := gdW2 120 (by decide +kernel) rfl
theorem bw_361 : (Jvm.Cond.fieldLink "TollClock" (54 : Nat) "TollClock" "marks" "LTollClock$Marks;") ∈ BIG := gdW2 121 (by decide +kernel) rfl
theorem bw_362 : (Jvm.Cond.fieldLink "TollClock" (58 : Nat) "TollClock" "openDues" "[I") ∈ BIG := gdW2 122 (by decide +kernel) rfl
theorem bw_363 : (Jvm.Cond.fieldLink "TollClock" (64 : Nat) "TollClock" "program" "LTollClock$Program;") ∈ BIG := gdW2 123 (by decide +kernel) rfl
theorem bw_364 : (Jvm.Cond.fieldLink "TollClock" (68 : Nat) "TollClock" "errorPosition" "I") ∈ BIG := gdW2 124 (by decide +kernel) rfl
theorem bw_365 : (Jvm.Cond.fieldLink "TollClock" (72 : Nat) "TollClock" "failedCommand" "I") ∈ BIG := gdW2 125 (by decide +kernel) rfl
theorem bw_393 : (Jvm.Cond.methodLink "TollClockLaw" (221 : Nat) ({ cls := "TollClock", name := "parties", desc := "()I" } : Jvm.MethodName)) ∈ BIG := gdW2 153 (by decide +kernel) rfl
theorem bw_394 : (Jvm.Cond.instanceMethod ({ cls := "TollClock", name := "parties", desc := "()I" } : Jvm.MethodName)) ∈ BIG := gdW2 154 (by decide +kernel) rfl
theorem bw_395 : (Jvm.Cond.selects "TollClock" ({ cls := "TollClock", name := "parties", desc := "()I" } : Jvm.MethodName) ({ cls := "TollClock", name := "parties", desc := "()I" } : Jvm.MethodName)) ∈ BIG := gdW2 155 (by decide +kernel) rfl
theorem bw_396 : (Jvm.Cond.code ({ cls := "TollClock", name := "parties", desc := "()I" } : Jvm.MethodName) prog_1_method_5_code (1 : Nat) (Option.some Jvm.ClassFile.FieldType.int)) ∈ BIG := gdW2 156 (by decide +kernel) rfl
theorem bw_397 : (Jvm.Cond.methodLink "TollClockLaw" (236 : Nat) ({ cls := "TollClock", name := "today", desc := "()I" } : Jvm.MethodName)) ∈ BIG := gdW2 157 (by decide +kernel) rfl
theorem bw_398 : (Jvm.Cond.instanceMethod ({ cls := "TollClock", name := "today", desc := "()I" } : Jvm.MethodName)) ∈ BIG := gdW2 158 (by decide +kernel) rfl
theorem bw_399 : (Jvm.Cond.selects "TollClock" ({ cls := "TollClock", name := "today", desc := "()I" } : Jvm.MethodName) ({ cls := "TollClock", name := "today", desc := "()I" } : Jvm.MethodName)) ∈ BIG := gdW2 159 (by decide +kernel) rfl
theorem bw_400 : (Jvm.Cond.code ({ cls := "TollClock", name := "today", desc := "()I" } : Jvm.MethodName) prog_1_method_11_code (1 : Nat) (Option.some Jvm.ClassFile.FieldType.int)) ∈ BIG := gdW2 160 (by decide +kernel) rfl
theorem bw_401 : (Jvm.Cond.methodLink "TollClockLaw" (288 : Nat) ({ cls := "TollClock", name := "deadlines", desc := "()I" } : Jvm.MethodName)) ∈ BIG := gdW2 161 (by decide +kernel) rfl
theorem bw_402 : (Jvm.Cond.instanceMethod ({ cls := "TollClock", name := "deadlines", desc := "()I" } : Jvm.MethodName)) ∈ BIG := gdW2 162 (by decide +kernel) rfl
theorem bw_403 : (Jvm.Cond.selects "TollClock" ({ cls := "TollClock", name := "deadlines", desc := "()I" } : Jvm.MethodName) ({ cls := "TollClock", name := "deadlines", desc := "()I" } : Jvm.MethodName)) ∈ BIG := gdW2 163 (by decide +kernel) rfl
theorem bw_404 : (Jvm.Cond.code ({ cls := "TollClock", name := "deadlines", desc := "()I" } : Jvm.MethodName) prog_1_method_38_code (1 : Nat) (Option.some Jvm.ClassFile.FieldType.int)) ∈ BIG := gdW2 164 (by decide +kernel) rfl
theorem bw_405 : (Jvm.Cond.methodLink "TollClockLaw" (325 : Nat) ({ cls := "TollClock", name := "overdue", desc := "()I" } : Jvm.MethodName)) ∈ BIG := gdW2 165 (by decide +kernel) rfl
theorem bw_406 : (Jvm.Cond.instanceMethod ({ cls := "TollClock", name := "overdue", desc := "()I" } : Jvm.MethodName)) ∈ BIG := gdW2 166 (by decide +kernel) rfl
theorem bw_407 : (Jvm.Cond.selects "TollClock" ({ cls := "TollClock", name := "overdue", desc := "()I" } : Jvm.MethodName) ({ cls := "TollClock", name := "overdue", desc := "()I" } : Jvm.MethodName)) ∈ BIG := gdW2 167 (by decide +kernel) rfl
theorem bw_408 : (Jvm.Cond.code ({ cls := "TollClock", name := "overdue", desc := "()I" } : Jvm.MethodName) prog_1_method_50_code (3 : Nat) (Option.some Jvm.ClassFile.FieldType.int)) ∈ BIG := gdW2 168 (by decide +kernel) rfl
theorem bw_409 : (Jvm.Cond.methodLink "TollClock" (297 : Nat) ({ cls := "TollClock", name := "findOpenDues", desc := "()V" } : Jvm.MethodName)) ∈ BIG := gdW2 169 (by decide +kernel) rfl
theorem bw_411 : (Jvm.Cond.instanceMethod ({ cls := "TollClock", name := "findOpenDues", desc := "()V" } : Jvm.MethodName)) ∈ BIG := gdW2 171 (by decide +kernel) rfl
theorem bw_412 : (Jvm.Cond.code ({ cls := "TollClock", name := "findOpenDues", desc := "()V" } : Jvm.MethodName) prog_1_method_60_code (2 : Nat) (Option.none : Option Jvm.ClassFile.FieldType)) ∈ BIG := gdW2 172 (by decide +kernel) rfl
theorem bw_413 : (Jvm.Cond.methodLink "TollClock" (300 : Nat) ({ cls := "TollClock$Deadlines", name := "isOpen", desc := "(I)Z" } : Jvm.MethodName)) ∈ BIG := gdW2 173 (by decide +kernel) rfl
theorem bw_414 : (Jvm.Cond.instanceMethod ({ cls := "TollClock$Deadlines", name := "isOpen", desc := "(I)Z" } : Jvm.MethodName)) ∈ BIG := gdW2 174 (by decide +kernel) rfl
theorem bw_415 : (Jvm.Cond.selects "TollClock$Deadlines" ({ cls := "TollClock$Deadlines", name := "isOpen", desc := "(I)Z" } : Jvm.MethodName) ({ cls := "TollClock$Deadlines", name := "isOpen", desc := "(I)Z" } : Jvm.MethodName)) ∈ BIG := gdW2 175 (by decide +kernel) rfl
theorem bw_416 : (Jvm.Cond.code ({ cls := "TollClock$Deadlines", name := "isOpen", desc := "(I)Z" } : Jvm.MethodName) prog_4_method_4_code (2 : Nat) (Option.some Jvm.ClassFile.FieldType.boolean)) ∈ BIG := gdW2 176 (by decide +kernel) rfl
theorem bw_417 : (Jvm.Cond.methodLink "TollClock" (262 : Nat) ({ cls := "TollClock$Weeks", name := "endOf", desc := "(LTollClock$Deadlines;I)I" } : Jvm.MethodName)) ∈ BIG := gdW2 177 (by decide +kernel) rfl
theorem bw_418 : (Jvm.Cond.instanceMethod ({ cls := "TollClock$Weeks", name := "endOf", desc := "(LTollClock$Deadlines;I)I" } : Jvm.MethodName)) ∈ BIG := gdW2 178 (by decide +kernel) rfl
theorem bw_419 : (Jvm.Cond.selects "TollClock$Weeks" ({ cls := "TollClock$Weeks", name := "endOf", desc := "(LTollClock$Deadlines;I)I" } : Jvm.MethodName) ({ cls := "TollClock$Weeks", name := "endOf", desc := "(LTollClock$Deadlines;I)I" } : Jvm.MethodName)) ∈ BIG := gdW2 179 (by decide +kernel) rfl
theorem bw_420 : (Jvm.Cond.code ({ cls := "TollClock$Weeks", name := "endOf", desc := "(LTollClock$Deadlines;I)I" } : Jvm.MethodName) prog_12_method_5_code (6 : Nat) (Option.some Jvm.ClassFile.FieldType.int)) ∈ BIG := gdW2 180 (by decide +kernel) rfl
theorem bw_421 : (Jvm.Cond.methodLink "TollClock$Weeks" (63 : Nat) ({ cls := "TollClock$Weeks", name := "takeStays", desc := "(LTollClock$Deadlines;I)V" } : Jvm.MethodName)) ∈ BIG := gdW2 181 (by decide +kernel) rfl
theorem bw_423 : (Jvm.Cond.instanceMethod ({ cls := "TollClock$Weeks", name := "takeStays", desc := "(LTollClock$Deadlines;I)V" } : Jvm.MethodName)) ∈ BIG := gdW2 183 (by decide +kernel) rfl
theorem bw_424 : (Jvm.Cond.code ({ cls := "TollClock$Weeks", name := "takeStays", desc := "(LTollClock$Deadlines;I)V" } : Jvm.MethodName) prog_12_method_2_code (4 : Nat) (Option.none : Option Jvm.ClassFile.FieldType)) ∈ BIG := gdW2 184 (by decide +kernel) rfl
theorem bw_425 : (Jvm.Cond.methodLink "TollClock$Weeks" (43 : Nat) ({ cls := "TollClock$Stays", name := "concerns", desc := "(III)Z" } : Jvm.MethodName)) ∈ BIG := gdW2 185 (by decide +kernel) rfl
theorem bw_426 : (Jvm.Cond.instanceMethod ({ cls := "TollClock$Stays", name := "concerns", desc := "(III)Z" } : Jvm.MethodName)) ∈ BIG := gdW2 186 (by decide +kernel) rfl
theorem bw_427 : (Jvm.Cond.selects "TollClock$Stays" ({ cls := "TollClock$Stays", name := "concerns", desc := "(III)Z" } : Jvm.MethodName) ({ cls := "TollClock$Stays", name := "concerns", desc := "(III)Z" } : Jvm.MethodName)) ∈ BIG := gdW2 187 (by decide +kernel) rfl
theorem bw_428 : (Jvm.Cond.code ({ cls := "TollClock$Stays", name := "concerns", desc := "(III)Z" } : Jvm.MethodName) prog_10_method_7_code (5 : Nat) (Option.some Jvm.ClassFile.FieldType.boolean)) ∈ BIG := gdW2 188 (by decide +kernel) rfl
theorem bw_429 : (Jvm.Cond.methodLink "TollClock$Weeks" (53 : Nat) ({ cls := "TollClock$Weeks", name := "joinRange", desc := "(II)V" } : Jvm.MethodName)) ∈ BIG := gdW2 189 (by decide +kernel) rfl
theorem bw_431 : (Jvm.Cond.instanceMethod ({ cls := "TollClock$Weeks", name := "joinRange", desc := "(II)V" } : Jvm.MethodName)) ∈ BIG := gdW2 191 (by decide +kernel) rfl
theorem bw_432 : (Jvm.Cond.code ({ cls := "TollClock$Weeks", name := "joinRange", desc := "(II)V" } : Jvm.MethodName) prog_12_method_3_code (3 : Nat) (Option.none : Option Jvm.ClassFile.FieldType)) ∈ BIG := gdW2 192 (by decide +kernel) rfl
theorem bw_433 : (Jvm.Cond.methodLink "TollClock$Weeks" (57 : Nat) ({ cls := "java/lang/Math", name := "max", desc := "(II)I" } : Jvm.MethodName)) ∈ BIG := gdW2 193 (by decide +kernel) rfl
theorem bw_434 : (Jvm.Cond.static ({ cls := "java/lang/Math", name := "max", desc := "(II)I" } : Jvm.MethodName)) ∈ BIG := gdW2 194 (by decide +kernel) rfl
theorem bw_435 : (Jvm.Cond.code ({ cls := "java/lang/Math", name := "max", desc := "(II)I" } : Jvm.MethodName) prog_24_method_65_code (2 : Nat) (Option.some Jvm.ClassFile.FieldType.int)) ∈ BIG := gdW2 195 (by decide +kernel) rfl
theorem bw_436 : (Jvm.Cond.methodLink "TollClock$Weeks" (76 : Nat) ({ cls := "TollClock$Deadlines", name := "partCountsCourt", desc := "(II)Z" } : Jvm.MethodName)) ∈ BIG := gdW2 196 (by decide +kernel) rfl
theorem bw_437 : (Jvm.Cond.instanceMethod ({ cls := "TollClock$Deadlines", name := "partCountsCourt", desc := "(II)Z" } : Jvm.MethodName)) ∈ BIG := gdW2 197 (by decide +kernel) rfl
theorem bw_438 : (Jvm.Cond.selects "TollClock$Deadlines" ({ cls := "TollClock$Deadlines", name := "partCountsCourt", desc := "(II)Z" } : Jvm.MethodName) ({ cls := "TollClock$Deadlines", name := "partCountsCourt", desc := "(II)Z" } : Jvm.MethodName)) ∈ BIG := gdW2 198 (by decide +kernel) rfl
theorem bw_439 : (Jvm.Cond.code ({ cls := "TollClock$Deadlines", name := "partCountsCourt", desc := "(II)Z" } : Jvm.MethodName) prog_4_method_10_code (3 : Nat) (Option.some Jvm.ClassFile.FieldType.boolean)) ∈ BIG := gdW2 199 (by decide +kernel) rfl
theorem bw_440 : (Jvm.Cond.methodLink "TollClock$Weeks" (80 : Nat) ({ cls := "TollClock$Deadlines", name := "lengthOfPart", desc := "(II)I" } : Jvm.MethodName)) ∈ BIG := gdW2 200 (by decide +kernel) rfl
theorem bw_441 : (Jvm.Cond.instanceMethod ({ cls := "TollClock$Deadlines", name := "lengthOfPart", desc := "(II)I" } : Jvm.MethodName)) ∈ BIG := gdW2 201 (by decide +kernel) rfl
theorem bw_442 : (Jvm.Cond.selects "TollClock$Deadlines" ({ cls := "TollClock$Deadlines", name := "lengthOfPart", desc := "(II)I" } : Jvm.MethodName) ({ cls := "TollClock$Deadlines", name := "lengthOfPart", desc := "(II)I" } : Jvm.MethodName)) ∈ BIG := gdW2 202 (by decide +kernel) rfl
theorem bw_443 : (Jvm.Cond.code ({ cls := "TollClock$Deadlines", name := "lengthOfPart", desc := "(II)I" } : Jvm.MethodName) prog_4_method_9_code (3 : Nat) (Option.some Jvm.ClassFile.FieldType.int)) ∈ BIG := gdW2 203 (by decide +kernel) rfl
theorem bw_444 : (Jvm.Cond.methodLink "TollClock$Weeks" (83 : Nat) ({ cls := "TollClock$Weeks", name := "dayOfCount", desc := "(IIZ)I" } : Jvm.MethodName)) ∈ BIG := gdW2 204 (by decide +kernel) rfl
theorem bw_446 : (Jvm.Cond.instanceMethod ({ cls := "TollClock$Weeks", name := "dayOfCount", desc := "(IIZ)I" } : Jvm.MethodName)) ∈ BIG := gdW2 206 (by decide +kernel) rfl
theorem bw_447 : (Jvm.Cond.code ({ cls := "TollClock$Weeks", name := "dayOfCount", desc := "(IIZ)I" } : Jvm.MethodName) prog_12_method_7_code (8 : Nat) (Option.some Jvm.ClassFile.FieldType.int)) ∈ BIG := gdW2 207 (by decide +kernel) rfl
theorem bw_448 : (Jvm.Cond.methodLink "TollClock$Weeks" (94 : Nat) ({ cls := "TollClock$Weeks", name := "lastDayOfGap", desc := "(I)I" } : Jvm.MethodName)) ∈ BIG := gdW2 208 (by decide +kernel) rfl
theorem bw_450 : (Jvm.Cond.instanceMethod ({ cls := "TollClock$Weeks", name := "lastDayOfGap", desc := "(I)I" } : Jvm.MethodName)) ∈ BIG := gdW2 210 (by decide +kernel) rfl
theorem bw_451 : (Jvm.Cond.code ({ cls := "TollClock$Weeks", name := "lastDayOfGap", desc := "(I)I" } : Jvm.MethodName) prog_12_method_9_code (2 : Nat) (Option.some Jvm.ClassFile.FieldType.int)) ∈ BIG := gdW2 211 (by decide +kernel) rfl
theorem bw_452 : (Jvm.Cond.methodLink "TollClock$Weeks" (97 : Nat) ({ cls := "TollClock$Weeks", name := "countDays", desc := "(IIZ)I" } : Jvm.MethodName)) ∈ BIG := gdW2 212 (by decide +kernel) rfl
theorem bw_454 : (Jvm.Cond.instanceMethod ({ cls := "TollClock$Weeks", name := "countDays", desc := "(IIZ)I" } : Jvm.MethodName)) ∈ BIG := gdW2 214 (by decide +kernel) rfl
theorem bw_455 : (Jvm.Cond.code ({ cls := "TollClock$Weeks", name := "countDays", desc := "(IIZ)I" } : Jvm.MethodName) prog_12_method_11_code (4 : Nat) (Option.some Jvm.ClassFile.FieldType.int)) ∈ BIG := gdW2 215 (by decide +kernel) rfl
theorem bw_456 : (Jvm.Cond.methodLink "TollClock$Weeks" (106 : Nat) ({ cls := "TollClock$Calendar", name := "countCourt", desc := "(II)I" } : Jvm.MethodName)) ∈ BIG := gdW2 216 (by decide +kernel) rfl
theorem bw_457 : (Jvm.Cond.instanceMethod ({ cls := "TollClock$Calendar", name := "countCourt", desc := "(II)I" } : Jvm.MethodName)) ∈ BIG := gdW2 217 (by decide +kernel) rfl
theorem bw_458 : (Jvm.Cond.selects "TollClock$Calendar" ({ cls := "TollClock$Calendar", name := "countCourt", desc := "(II)I" } : Jvm.MethodName) ({ cls := "TollClock$Calendar", name := "countCourt", desc := "(II)I" } : Jvm.MethodName)) ∈ BIG := gdW2 218 (by decide +kernel) rfl
theorem bw_459 : (Jvm.Cond.code ({ cls := "TollClock$Calendar", name := "countCourt", desc := "(II)I" } : Jvm.MethodName) prog_2_method_8_code (7 : Nat) (Option.some Jvm.ClassFile.FieldType.int)) ∈ BIG := gdW2 219 (by decide +kernel) rfl
theorem bw_460 : (Jvm.Cond.methodLink "TollClock$Weeks" (100 : Nat) ({ cls := "TollClock$Weeks", name := "courtDayOfCount", desc := "(II)I" } : Jvm.MethodName)) ∈ BIG := gdW2 220 (by decide +kernel) rfl
theorem bw_462 : (Jvm.Cond.instanceMethod ({ cls := "TollClock$Weeks", name := "courtDayOfCount", desc := "(II)I" } : Jvm.MethodName)) ∈ BIG := gdW2 222 (by decide +kernel) rfl
theorem bw_463 : (Jvm.Cond.code ({ cls := "TollClock$Weeks", name := "courtDayOfCount", desc := "(II)I" } : Jvm.MethodName) prog_12_method_12_code (6 : Nat) (Option.some Jvm.ClassFile.FieldType.int)) ∈ BIG := gdW2 223 (by decide +kernel) rfl
theorem bw_464 : (Jvm.Cond.methodLink "TollClock$Weeks" (67 : Nat) ({ cls := "java/lang/Math", name := "min", desc := "(II)I" } : Jvm.MethodName)) ∈ BIG := gdW2 224 (by decide +kernel) rfl
theorem bw_465 : (Jvm.Cond.static ({ cls := "java/lang/Math", name := "min", desc := "(II)I" } : Jvm.MethodName)) ∈ BIG := gdW2 225 (by decide +kernel) rfl
theorem bw_466 : (Jvm.Cond.code ({ cls := "java/lang/Math", name := "min", desc := "(II)I" } : Jvm.MethodName) prog_24_method_69_code (2 : Nat) (Option.some Jvm.ClassFile.FieldType.int)) ∈ BIG := gdW2 226 (by decide +kernel) rfl
theorem bw_467 : (Jvm.Cond.methodLink "TollClock$Weeks" (111 : Nat) ({ cls := "TollClock$Calendar", name := "isCourt", desc := "(I)Z" } : Jvm.MethodName)) ∈ BIG := gdW2 227 (by decide +kernel) rfl
theorem bw_468 : (Jvm.Cond.instanceMethod ({ cls := "TollClock$Calendar", name := "isCourt", desc := "(I)Z" } : Jvm.MethodName)) ∈ BIG := gdW2 228 (by decide +kernel) rfl
theorem bw_469 : (Jvm.Cond.selects "TollClock$Calendar" ({ cls := "TollClock$Calendar", name := "isCourt", desc := "(I)Z" } : Jvm.MethodName) ({ cls := "TollClock$Calendar", name := "isCourt", desc := "(I)Z" } : Jvm.MethodName)) ∈ BIG := gdW2 229 (by decide +kernel) rfl
theorem bw_470 : (Jvm.Cond.code ({ cls := "TollClock$Calendar", name := "isCourt", desc := "(I)Z" } : Jvm.MethodName) prog_2_method_4_code (2 : Nat) (Option.some Jvm.ClassFile.FieldType.boolean)) ∈ BIG := gdW2 230 (by decide +kernel) rfl
theorem bw_471 : (Jvm.Cond.methodLink "TollClock$Calendar" (28 : Nat) ({ cls := "TollClock$Calendar", name := "placeOf", desc := "(I)I" } : Jvm.MethodName)) ∈ BIG := gdW2 231 (by decide +kernel) rfl
theorem bw_473 : (Jvm.Cond.instanceMethod ({ cls := "TollClock$Calendar", name := "placeOf", desc := "(I)I" } : Jvm.MethodName)) ∈ BIG := gdW2 233 (by decide +kernel) rfl
theorem bw_474 : (Jvm.Cond.code ({ cls := "TollClock$Calendar", name := "placeOf", desc := "(I)I" } : Jvm.MethodName) prog_2_method_7_code (3 : Nat) (Option.some Jvm.ClassFile.FieldType.int)) ∈ BIG := gdW2 234 (by decide +kernel) rfl
theorem bw_475 : (Jvm.Cond.methodLink "TollClock$Weeks" (103 : Nat) ({ cls := "TollClock$Weeks", name := "dayBehindRange", desc := "(II)I" } : Jvm.MethodName)) ∈ BIG := gdW2 235 (by decide +kernel) rfl
theorem bw_477 : (Jvm.Cond.instanceMethod ({ cls := "TollClock$Weeks", name := "dayBehindRange", desc := "(II)I" } : Jvm.MethodName)) ∈ BIG := gdW2 237 (by decide +kernel) rfl
theorem bw_478 : (Jvm.Cond.code ({ cls := "TollClock$Weeks", name := "dayBehindRange", desc := "(II)I" } : Jvm.MethodName) prog_12_method_10_code (3 : Nat) (Option.some Jvm.ClassFile.FieldType.int)) ∈ BIG := gdW2 238 (by decide +kernel) rfl
theorem bw_479 : (Jvm.Cond.methodLink "TollClock$Weeks" (87 : Nat) ({ cls := "TollClock$Weeks", name := "moveEnd", desc := "(I)I" } : Jvm.MethodName)) ∈ BIG := gdW2 239 (by decide +kernel) rfl
theorem bw_481 : (Jvm.Cond.instanceMethod ({ cls := "TollClock$Weeks", name := "moveEnd", desc := "(I)I" } : Jvm.MethodName)) ∈ BIG := gdW3 1 (by decide +kernel) rfl
theorem bw_482 : (Jvm.Cond.code ({ cls := "TollClock$Weeks", name := "moveEnd", desc := "(I)I" } : Jvm.MethodName) prog_12_method_13_code (4 : Nat) (Option.some Jvm.ClassFile.FieldType.int)) ∈ BIG := gdW3 2 (by decide +kernel) rfl
theorem bw_483 : (Jvm.Cond.methodLink "TollClock$Weeks" (115 : Nat) ({ cls := "TollClock$Weeks", name := "skipRange", desc := "(I)I" } : Jvm.MethodName)) ∈ BIG := gdW3 3 (by decide +kernel) rfl
theorem bw_485 : (Jvm.Cond.instanceMethod ({ cls := "TollClock$Weeks", name := "skipRange", desc := "(I)I" } : Jvm.MethodName)) ∈ BIG := gdW3 5 (by decide +kernel) rfl
theorem bw_486 : (Jvm.Cond.code ({ cls := "TollClock$Weeks", name := "skipRange", desc := "(I)I" } : Jvm.MethodName) prog_12_method_14_code (3 : Nat) (Option.some Jvm.ClassFile.FieldType.int)) ∈ BIG := gdW3 6 (by decide +kernel) rfl
theorem bw_487 : (Jvm.Cond.methodLink "TollClockLaw" (345 : Nat) ({ cls := "TollClock", name := "staysInForce", desc := "()I" } : Jvm.MethodName)) ∈ BIG := gdW3 7 (by decide +kernel) rfl
theorem bw_488 : (Jvm.Cond.instanceMethod ({ cls := "TollClock", name := "staysInForce", desc := "()I" } : Jvm.MethodName)) ∈ BIG := gdW3 8 (by decide +kernel) rfl
theorem bw_489 : (Jvm.Cond.selects "TollClock" ({ cls := "TollClock", name := "staysInForce", desc := "()I" } : Jvm.MethodName) ({ cls := "TollClock", name := "staysInForce", desc := "()I" } : Jvm.MethodName)) ∈ BIG := gdW3 9 (by decide +kernel) rfl
theorem bw_490 : (Jvm.Cond.code ({ cls := "TollClock", name := "staysInForce", desc := "()I" } : Jvm.MethodName) prog_1_method_66_code (1 : Nat) (Option.some Jvm.ClassFile.FieldType.int)) ∈ BIG := gdW3 10 (by decide +kernel) rfl
theorem bw_491 : (Jvm.Cond.methodLink "TollClock" (351 : Nat) ({ cls := "TollClock$Stays", name := "countInForce", desc := "()I" } : Jvm.MethodName)) ∈ BIG := gdW3 11 (by decide +kernel) rfl
theorem bw_492 : (Jvm.Cond.instanceMethod ({ cls := "TollClock$Stays", name := "countInForce", desc := "()I" } : Jvm.MethodName)) ∈ BIG := gdW3 12 (by decide +kernel) rfl
theorem bw_493 : (Jvm.Cond.selects "TollClock$Stays" ({ cls := "TollClock$Stays", name := "countInForce", desc := "()I" } : Jvm.MethodName) ({ cls := "TollClock$Stays", name := "countInForce", desc := "()I" } : Jvm.MethodName)) ∈ BIG := gdW3 13 (by decide +kernel) rfl
theorem bw_494 : (Jvm.Cond.code ({ cls := "TollClock$Stays", name := "countInForce", desc := "()I" } : Jvm.MethodName) prog_10_method_6_code (3 : Nat) (Option.some Jvm.ClassFile.FieldType.int)) ∈ BIG := gdW3 14 (by decide +kernel) rfl
theorem bw_495 : (Jvm.Cond.methodLink "TollClock$Stays" (34 : Nat) ({ cls := "TollClock$Stays", name := "isInForce", desc := "(I)Z" } : Jvm.MethodName)) ∈ BIG := gdW3 15 (by decide +kernel) rfl
theorem bw_496 : (Jvm.Cond.instanceMethod ({ cls := "TollClock$Stays", name := "isInForce", desc := "(I)Z" } : Jvm.MethodName)) ∈ BIG := gdW3 16 (by decide +kernel) rfl
theorem bw_497 : (Jvm.Cond.selects "TollClock$Stays" ({ cls := "TollClock$Stays", name := "isInForce", desc := "(I)Z" } : Jvm.MethodName) ({ cls := "TollClock$Stays", name := "isInForce", desc := "(I)Z" } : Jvm.MethodName)) ∈ BIG := gdW3 17 (by decide +kernel) rfl
theorem bw_498 : (Jvm.Cond.code ({ cls := "TollClock$Stays", name := "isInForce", desc := "(I)Z" } : Jvm.MethodName) prog_10_method_5_code (2 : Nat) (Option.some Jvm.ClassFile.FieldType.boolean)) ∈ BIG := gdW3 18 (by decide +kernel) rfl
theorem bw_499 : (Jvm.Cond.methodLink "TollClockLaw" (395 : Nat) ({ cls := "TollClock", name := "isConsistent", desc := "()Z" } : Jvm.MethodName)) ∈ BIG := gdW3 19 (by decide +kernel) rfl
theorem bw_500 : (Jvm.Cond.instanceMethod ({ cls := "TollClock", name := "isConsistent", desc := "()Z" } : Jvm.MethodName)) ∈ BIG := gdW3 20 (by decide +kernel) rfl
theorem bw_501 : (Jvm.Cond.selects "TollClock" ({ cls := "TollClock", name := "isConsistent", desc := "()Z" } : Jvm.MethodName) ({ cls := "TollClock", name := "isConsistent", desc := "()Z" } : Jvm.MethodName)) ∈ BIG := gdW3 21 (by decide +kernel) rfl
theorem bw_502 : (Jvm.Cond.code ({ cls := "TollClock", name := "isConsistent", desc := "()Z" } : Jvm.MethodName) prog_1_method_92_code (2 : Nat) (Option.some Jvm.ClassFile.FieldType.boolean)) ∈ BIG := gdW3 22 (by decide +kernel) rfl
theorem bw_503 : (Jvm.Cond.methodLink "TollClock" (453 : Nat) ({ cls := "TollClock", name := "deadlineAgrees", desc := "(I)Z" } : Jvm.MethodName)) ∈ BIG := gdW3 23 (by decide +kernel) rfl
theorem bw_505 : (Jvm.Cond.instanceMethod ({ cls := "TollClock", name := "deadlineAgrees", desc := "(I)Z" } : Jvm.MethodName)) ∈ BIG := gdW3 25 (by decide +kernel) rfl
theorem bw_506 : (Jvm.Cond.code ({ cls := "TollClock", name := "deadlineAgrees", desc := "(I)Z" } : Jvm.MethodName) prog_1_method_93_code (4 : Nat) (Option.some Jvm.ClassFile.FieldType.boolean)) ∈ BIG := gdW3 26 (by decide +kernel) rfl
theorem bw_507 : (Jvm.Cond.methodLink "TollClock" (269 : Nat) ({ cls := "TollClock$Marks", name := "endOf", desc := "(LTollClock$Deadlines;I)I" } : Jvm.MethodName)) ∈ BIG := gdW3 27 (by decide +kernel) rfl
theorem bw_508 : (Jvm.Cond.instanceMethod ({ cls := "TollClock$Marks", name := "endOf", desc := "(LTollClock$Deadlines;I)I" } : Jvm.MethodName)) ∈ BIG := gdW3 28 (by decide +kernel) rfl
theorem bw_509 : (Jvm.Cond.selects "TollClock$Marks" ({ cls := "TollClock$Marks", name := "endOf", desc := "(LTollClock$Deadlines;I)I" } : Jvm.MethodName) ({ cls := "TollClock$Marks", name := "endOf", desc := "(LTollClock$Deadlines;I)I" } : Jvm.MethodName)) ∈ BIG := gdW3 29 (by decide +kernel) rfl
theorem bw_510 : (Jvm.Cond.code ({ cls := "TollClock$Marks", name := "endOf", desc := "(LTollClock$Deadlines;I)I" } : Jvm.MethodName) prog_6_method_10_code (3 : Nat) (Option.some Jvm.ClassFile.FieldType.int)) ∈ BIG := gdW3 30 (by decide +kernel) rfl
theorem bw_511 : (Jvm.Cond.methodLink "TollClock$Marks" (86 : Nat) ({ cls := "TollClock$Marks", name := "walk", desc := "(LTollClock$Deadlines;II)V" } : Jvm.MethodName)) ∈ BIG := gdW3 31 (by decide +kernel) rfl
theorem bw_513 : (Jvm.Cond.instanceMethod ({ cls := "TollClock$Marks", name := "walk", desc := "(LTollClock$Deadlines;II)V" } : Jvm.MethodName)) ∈ BIG := gdW3 33 (by decide +kernel) rfl
theorem bw_514 : (Jvm.Cond.code ({ cls := "TollClock$Marks", name := "walk", desc := "(LTollClock$Deadlines;II)V" } : Jvm.MethodName) prog_6_method_12_code (10 : Nat) (Option.none : Option Jvm.ClassFile.FieldType)) ∈ BIG := gdW3 34 (by decide +kernel) rfl
theorem bw_515 : (Jvm.Cond.methodLink "TollClock$Marks" (76 : Nat) ({ cls := "TollClock$Marks", name := "markHolidays", desc := "()V" } : Jvm.MethodName)) ∈ BIG := gdW3 35 (by decide +kernel) rfl
theorem bw_517 : (Jvm.Cond.instanceMethod ({ cls := "TollClock$Marks", name := "markHolidays", desc := "()V" } : Jvm.MethodName)) ∈ BIG := gdW3 37 (by decide +kernel) rfl
theorem bw_518 : (Jvm.Cond.code ({ cls := "TollClock$Marks", name := "markHolidays", desc := "()V" } : Jvm.MethodName) prog_6_method_2_code (2 : Nat) (Option.none : Option Jvm.ClassFile.FieldType)) ∈ BIG := gdW3 38 (by decide +kernel) rfl
theorem bw_519 : (Jvm.Cond.methodLink "TollClock$Marks" (26 : Nat) ({ cls := "TollClock$Marks", name := "clear", desc := "([J)V" } : Jvm.MethodName)) ∈ BIG := gdW3 39 (by decide +kernel) rfl
theorem bw_520 : (Jvm.Cond.static ({ cls := "TollClock$Marks", name := "clear", desc := "([J)V" } : Jvm.MethodName)) ∈ BIG := gdW3 40 (by decide +kernel) rfl
theorem bw_521 : (Jvm.Cond.code ({ cls := "TollClock$Marks", name := "clear", desc := "([J)V" } : Jvm.MethodName) prog_6_method_4_code (2 : Nat) (Option.none : Option Jvm.ClassFile.FieldType)) ∈ BIG := gdW3 41 (by decide +kernel) rfl
theorem bw_522 : (Jvm.Cond.methodLink "TollClock$Marks" (39 : Nat) ({ cls := "TollClock$Marks", name := "mark", desc := "([JII)V" } : Jvm.MethodName)) ∈ BIG := gdW3 42 (by decide +kernel) rfl
theorem bw_523 : (Jvm.Cond.static ({ cls := "TollClock$Marks", name := "mark", desc := "([JII)V" } : Jvm.MethodName)) ∈ BIG := gdW3 43 (by decide +kernel) rfl
theorem bw_524 : (Jvm.Cond.code ({ cls := "TollClock$Marks", name := "mark", desc := "([JII)V" } : Jvm.MethodName) prog_6_method_5_code (5 : Nat) (Option.none : Option Jvm.ClassFile.FieldType)) ∈ BIG := gdW3 44 (by decide +kernel) rfl
theorem bw_525 : (Jvm.Cond.constantLong "TollClock$Marks" (66 : Nat) (-1 : Int64)) ∈ BIG := gdW3 45 (by decide +kernel) rfl
theorem bw_526 : (Jvm.Cond.methodLink "TollClock$Marks" (82 : Nat) ({ cls := "TollClock$Marks", name := "markStays", desc := "(LTollClock$Deadlines;I)V" } : Jvm.MethodName)) ∈ BIG := gdW3 46 (by decide +kernel) rfl
theorem bw_528 : (Jvm.Cond.instanceMethod ({ cls := "TollClock$Marks", name := "markStays", desc := "(LTollClock$Deadlines;I)V" } : Jvm.MethodName)) ∈ BIG := gdW3 48 (by decide +kernel) rfl
theorem bw_529 : (Jvm.Cond.code ({ cls := "TollClock$Marks", name := "markStays", desc := "(LTollClock$Deadlines;I)V" } : Jvm.MethodName) prog_6_method_3_code (4 : Nat) (Option.none : Option Jvm.ClassFile.FieldType)) ∈ BIG := gdW3 49 (by decide +kernel) rfl
theorem bw_530 : (Jvm.Cond.methodLink "TollClock$Marks" (56 : Nat) ({ cls := "TollClock$Stays", name := "concerns", desc := "(III)Z" } : Jvm.MethodName)) ∈ BIG := gdW3 50 (by decide +kernel) rfl
theorem bw_531 : (Jvm.Cond.methodLink "TollClock$Marks" (72 : Nat) ({ cls := "TollClock$Marks", name := "isMarked", desc := "([JI)Z" } : Jvm.MethodName)) ∈ BIG := gdW3 51 (by decide +kernel) rfl
theorem bw_532 : (Jvm.Cond.static ({ cls := "TollClock$Marks", name := "isMarked", desc := "([JI)Z" } : Jvm.MethodName)) ∈ BIG := gdW3 52 (by decide +kernel) rfl
theorem bw_533 : (Jvm.Cond.code ({ cls := "TollClock$Marks", name := "isMarked", desc := "([JI)Z" } : Jvm.MethodName) prog_6_method_6_code (2 : Nat) (Option.some Jvm.ClassFile.FieldType.boolean)) ∈ BIG := gdW3 53 (by decide +kernel) rfl
theorem bw_535 : (Jvm.Cond.static ({ cls := "TollClock", name := "isDay", desc := "(I)Z" } : Jvm.MethodName)) ∈ BIG := gdW3 55 (by decide +kernel) rfl
theorem bw_536 : (Jvm.Cond.code ({ cls := "TollClock", name := "isDay", desc := "(I)Z" } : Jvm.MethodName) prog_1_method_22_code (1 : Nat) (Option.some Jvm.ClassFile.FieldType.boolean)) ∈ BIG := gdW3 56 (by decide +kernel) rfl
theorem bw_537 : (Jvm.Cond.methodLink "TollClock$Marks" (79 : Nat) ({ cls := "TollClock$Marks", name := "isCourt", desc := "(I)Z" } : Jvm.MethodName)) ∈ BIG := gdW3 57 (by decide +kernel) rfl
theorem bw_539 : (Jvm.Cond.instanceMethod ({ cls := "TollClock$Marks", name := "isCourt", desc := "(I)Z" } : Jvm.MethodName)) ∈ BIG := gdW3 59 (by decide +kernel) rfl
theorem bw_540 : (Jvm.Cond.code ({ cls := "TollClock$Marks", name := "isCourt", desc := "(I)Z" } : Jvm.MethodName) prog_6_method_7_code (2 : Nat) (Option.some Jvm.ClassFile.FieldType.boolean)) ∈ BIG := gdW3 60 (by decide +kernel) rfl
theorem bw_541 : (Jvm.Cond.methodLink "TollClock$Marks" (102 : Nat) ({ cls := "TollClock$Deadlines", name := "lengthOfPart", desc := "(II)I" } : Jvm.MethodName)) ∈ BIG := gdW3 61 (by decide +kernel) rfl
theorem bw_542 : (Jvm.Cond.methodLink "TollClock$Marks" (106 : Nat) ({ cls := "TollClock$Deadlines", name := "partCountsCourt", desc := "(II)Z" } : Jvm.MethodName)) ∈ BIG := gdW3 62 (by decide +kernel) rfl
theorem bw_543 : (Jvm.Cond.methodLink "TollClock" (273 : Nat) ({ cls := "TollClock$Weeks", name := "countedUntil", desc := "(LTollClock$Deadlines;II)I" } : Jvm.MethodName)) ∈ BIG := gdW3 63 (by decide +kernel) rfl
theorem bw_544 : (Jvm.Cond.instanceMethod ({ cls := "TollClock$Weeks", name := "countedUntil", desc := "(LTollClock$Deadlines;II)I" } : Jvm.MethodName)) ∈ BIG := gdW3 64 (by decide +kernel) rfl
theorem bw_545 : (Jvm.Cond.selects "TollClock$Weeks" ({ cls := "TollClock$Weeks", name := "countedUntil", desc := "(LTollClock$Deadlines;II)I" } : Jvm.MethodName) ({ cls := "TollClock$Weeks", name := "countedUntil", desc := "(LTollClock$Deadlines;II)I" } : Jvm.MethodName)) ∈ BIG := gdW3 65 (by decide +kernel) rfl
theorem bw_546 : (Jvm.Cond.code ({ cls := "TollClock$Weeks", name := "countedUntil", desc := "(LTollClock$Deadlines;II)I" } : Jvm.MethodName) prog_12_method_6_code (10 : Nat) (Option.some Jvm.ClassFile.FieldType.int)) ∈ BIG := gdW3 66 (by decide +kernel) rfl
theorem bw_547 : (Jvm.Cond.methodLink "TollClock$Weeks" (91 : Nat) ({ cls := "TollClock$Weeks", name := "countFree", desc := "(IIZ)I" } : Jvm.MethodName)) ∈ BIG := gdW3 67 (by decide +kernel) rfl
theorem bw_549 : (Jvm.Cond.instanceMethod ({ cls := "TollClock$Weeks", name := "countFree", desc := "(IIZ)I" } : Jvm.MethodName)) ∈ BIG := gdW3 69 (by decide +kernel) rfl
theorem bw_550 : (Jvm.Cond.code ({ cls := "TollClock$Weeks", name := "countFree", desc := "(IIZ)I" } : Jvm.MethodName) prog_12_method_8_code (7 : Nat) (Option.some Jvm.ClassFile.FieldType.int)) ∈ BIG := gdW3 70 (by decide +kernel) rfl
theorem bw_551 : (Jvm.Cond.methodLink "TollClock" (277 : Nat) ({ cls := "TollClock$Marks", name := "countedUntil", desc := "(LTollClock$Deadlines;II)I" } : Jvm.MethodName)) ∈ BIG := gdW3 71 (by decide +kernel) rfl
theorem bw_552 : (Jvm.Cond.instanceMethod ({ cls := "TollClock$Marks", name := "countedUntil", desc := "(LTollClock$Deadlines;II)I" } : Jvm.MethodName)) ∈ BIG := gdW3 72 (by decide +kernel) rfl
theorem bw_553 : (Jvm.Cond.selects "TollClock$Marks" ({ cls := "TollClock$Marks", name := "countedUntil", desc := "(LTollClock$Deadlines;II)I" } : Jvm.MethodName) ({ cls := "TollClock$Marks", name := "countedUntil", desc := "(LTollClock$Deadlines;II)I" } : Jvm.MethodName)) ∈ BIG := gdW3 73 (by decide +kernel) rfl
theorem bw_554 : (Jvm.Cond.code ({ cls := "TollClock$Marks", name := "countedUntil", desc := "(LTollClock$Deadlines;II)I" } : Jvm.MethodName) prog_6_method_11_code (4 : Nat) (Option.some Jvm.ClassFile.FieldType.int)) ∈ BIG := gdW3 74 (by decide +kernel) rfl
theorem bw_555 : (Jvm.Cond.methodLink "TollClock" (356 : Nat) ({ cls := "TollClock$Weeks", name := "countStopped", desc := "(LTollClock$Deadlines;III)I" } : Jvm.MethodName)) ∈ BIG := gdW3 75 (by decide +kernel) rfl
theorem bw_556 : (Jvm.Cond.instanceMethod ({ cls := "TollClock$Weeks", name := "countStopped", desc := "(LTollClock$Deadlines;III)I" } : Jvm.MethodName)) ∈ BIG := gdW3 76 (by decide +kernel) rfl
theorem bw_557 : (Jvm.Cond.selects "TollClock$Weeks" ({ cls := "TollClock$Weeks", name := "countStopped", desc := "(LTollClock$Deadlines;III)I" } : Jvm.MethodName) ({ cls := "TollClock$Weeks", name := "countStopped", desc := "(LTollClock$Deadlines;III)I" } : Jvm.MethodName)) ∈ BIG := gdW3 77 (by decide +kernel) rfl
theorem bw_558 : (Jvm.Cond.code ({ cls := "TollClock$Weeks", name := "countStopped", desc := "(LTollClock$Deadlines;III)I" } : Jvm.MethodName) prog_12_method_4_code (9 : Nat) (Option.some Jvm.ClassFile.FieldType.int)) ∈ BIG := gdW3 78 (by decide +kernel) rfl
theorem bw_559 : (Jvm.Cond.methodLink "TollClock" (360 : Nat) ({ cls := "TollClock$Marks", name := "countStopped", desc := "(LTollClock$Deadlines;III)I" } : Jvm.MethodName)) ∈ BIG := gdW3 79 (by decide +kernel) rfl
theorem bw_560 : (Jvm.Cond.instanceMethod ({ cls := "TollClock$Marks", name := "countStopped", desc := "(LTollClock$Deadlines;III)I" } : Jvm.MethodName)) ∈ BIG := gdW3 80 (by decide +kernel) rfl
theorem bw_561 : (Jvm.Cond.selects "TollClock$Marks" ({ cls := "TollClock$Marks", name := "countStopped", desc := "(LTollClock$Deadlines;III)I" } : Jvm.MethodName) ({ cls := "TollClock$Marks", name := "countStopped", desc := "(LTollClock$Deadlines;III)I" } : Jvm.MethodName)) ∈ BIG := gdW3 81 (by decide +kernel) rfl
theorem bw_562 : (Jvm.Cond.code ({ cls := "TollClock$Marks", name := "countStopped", desc := "(LTollClock$Deadlines;III)I" } : Jvm.MethodName) prog_6_method_9_code (7 : Nat) (Option.some Jvm.ClassFile.FieldType.int)) ∈ BIG := gdW3 82 (by decide +kernel) rfl
theorem bw_563 : (Jvm.Cond.methodLink "TollClock" (456 : Nat) ({ cls := "TollClock", name := "conductAgrees", desc := "()Z" } : Jvm.MethodName)) ∈ BIG := gdW3 83 (by decide +kernel) rfl
theorem bw_565 : (Jvm.Cond.instanceMethod ({ cls := "TollClock", name := "conductAgrees", desc := "()Z" } : Jvm.MethodName)) ∈ BIG := gdW3 85 (by decide +kernel) rfl
theorem bw_566 : (Jvm.Cond.code ({ cls := "TollClock", name := "conductAgrees", desc := "()Z" } : Jvm.MethodName) prog_1_method_94_code (3 : Nat) (Option.some Jvm.ClassFile.FieldType.boolean)) ∈ BIG := gdW3 86 (by decide +kernel) rfl
theorem bw_567 : (Jvm.Cond.methodLink "TollClock" (388 : Nat) ({ cls := "TollClock$Claims", name := "inSameGroup", desc := "(II)Z" } : Jvm.MethodName)) ∈ BIG := gdW3 87 (by decide +kernel) rfl
theorem bw_568 : (Jvm.Cond.instanceMethod ({ cls := "TollClock$Claims", name := "inSameGroup", desc := "(II)Z" } : Jvm.MethodName)) ∈ BIG := gdW3 88 (by decide +kernel) rfl
theorem bw_569 : (Jvm.Cond.selects "TollClock$Claims" ({ cls := "TollClock$Claims", name := "inSameGroup", desc := "(II)Z" } : Jvm.MethodName) ({ cls := "TollClock$Claims", name := "inSameGroup", desc := "(II)Z" } : Jvm.MethodName)) ∈ BIG := gdW3 89 (by decide +kernel) rfl
theorem bw_570 : (Jvm.Cond.code ({ cls := "TollClock$Claims", name := "inSameGroup", desc := "(II)Z" } : Jvm.MethodName) prog_3_method_8_code (3 : Nat) (Option.some Jvm.ClassFile.FieldType.boolean)) ∈ BIG := gdW3 90 (by decide +kernel) rfl
theorem bw_571 : (Jvm.Cond.methodLink "TollClock" (394 : Nat) ({ cls := "TollClock$Claims", name := "isReached", desc := "(II)Z" } : Jvm.MethodName)) ∈ BIG := gdW3 91 (by decide +kernel) rfl
theorem bw_572 : (Jvm.Cond.instanceMethod ({ cls := "TollClock$Claims", name := "isReached", desc := "(II)Z" } : Jvm.MethodName)) ∈ BIG := gdW3 92 (by decide +kernel) rfl
theorem bw_573 : (Jvm.Cond.selects "TollClock$Claims" ({ cls := "TollClock$Claims", name := "isReached", desc := "(II)Z" } : Jvm.MethodName) ({ cls := "TollClock$Claims", name := "isReached", desc := "(II)Z" } : Jvm.MethodName)) ∈ BIG := gdW3 93 (by decide +kernel) rfl
theorem bw_574 : (Jvm.Cond.code ({ cls := "TollClock$Claims", name := "isReached", desc := "(II)Z" } : Jvm.MethodName) prog_3_method_9_code (3 : Nat) (Option.some Jvm.ClassFile.FieldType.boolean)) ∈ BIG := gdW3 94 (by decide +kernel) rfl
theorem bw_575 : (Jvm.Cond.methodLink "TollClock$Claims" (65 : Nat) ({ cls := "TollClock$Claims", name := "visit", desc := "([IIII)I" } : Jvm.MethodName)) ∈ BIG := gdW3 95 (by decide +kernel) rfl
theorem bw_576 : (Jvm.Cond.static ({ cls := "TollClock$Claims", name := "visit", desc := "([IIII)I" } : Jvm.MethodName)) ∈ BIG := gdW3 96 (by decide +kernel) rfl
theorem bw_577 : (Jvm.Cond.code ({ cls := "TollClock$Claims", name := "visit", desc := "([IIII)I" } : Jvm.MethodName) prog_3_method_10_code (6 : Nat) (Option.some Jvm.ClassFile.FieldType.int)) ∈ BIG := gdW3 97 (by decide +kernel) rfl
theorem bw_578 : (Jvm.Cond.methodLink "TollClock" (460 : Nat) ({ cls := "TollClock", name := "courtDaysAgree", desc := "()Z" } : Jvm.MethodName)) ∈ BIG := gdW3 98 (by decide +kernel) rfl
theorem bw_580 : (Jvm.Cond.instanceMethod ({ cls := "TollClock", name := "courtDaysAgree", desc := "()Z" } : Jvm.MethodName)) ∈ BIG := gdW3 100 (by decide +kernel) rfl
theorem bw_581 : (Jvm.Cond.code ({ cls := "TollClock", name := "courtDaysAgree", desc := "()Z" } : Jvm.MethodName) prog_1_method_95_code (2 : Nat) (Option.some Jvm.ClassFile.FieldType.boolean)) ∈ BIG := gdW3 101 (by decide +kernel) rfl
theorem bw_582 : (Jvm.Cond.methodLink "TollClock" (176 : Nat) ({ cls := "TollClock$Calendar", name := "countCourt", desc := "(II)I" } : Jvm.MethodName)) ∈ BIG := gdW3 102 (by decide +kernel) rfl
theorem bw_583 : (Jvm.Cond.methodLink "TollClock" (180 : Nat) ({ cls := "TollClock$Marks", name := "countCourt", desc := "(II)I" } : Jvm.MethodName)) ∈ BIG := gdW3 103 (by decide +kernel) rfl
theorem bw_584 : (Jvm.Cond.instanceMethod ({ cls := "TollClock$Marks", name := "countCourt", desc := "(II)I" } : Jvm.MethodName)) ∈ BIG := gdW3 104 (by decide +kernel) rfl
theorem bw_585 : (Jvm.Cond.selects "TollClock$Marks" ({ cls := "TollClock$Marks", name := "countCourt", desc := "(II)I" } : Jvm.MethodName) ({ cls := "TollClock$Marks", name := "countCourt", desc := "(II)I" } : Jvm.MethodName)) ∈ BIG := gdW3 105 (by decide +kernel) rfl
theorem bw_586 : (Jvm.Cond.code ({ cls := "TollClock$Marks", name := "countCourt", desc := "(II)I" } : Jvm.MethodName) prog_6_method_8_code (5 : Nat) (Option.some Jvm.ClassFile.FieldType.int)) ∈ BIG := gdW3 106 (by decide +kernel) rfl
theorem bw_590 : (Jvm.Cond.classLink "TollClockLaw" (13 : Nat) "java/lang/IllegalStateException") ∈ BIG := gdW3 110 (by decide +kernel) rfl
theorem bw_591 : (Jvm.Cond.methodLink "TollClockLaw" (7 : Nat) ({ cls := "TollClock", name := "type", desc := "(C)I" } : Jvm.MethodName)) ∈ BIG := gdW3 111 (by decide +kernel) rfl
theorem bw_592 : (Jvm.Cond.instanceMethod ({ cls := "TollClock", name := "type", desc := "(C)I" } : Jvm.MethodName)) ∈ BIG := gdW3 112 (by decide +kernel) rfl
theorem bw_593 : (Jvm.Cond.selects "TollClock" ({ cls := "TollClock", name := "type", desc := "(C)I" } : Jvm.MethodName) ({ cls := "TollClock", name := "type", desc := "(C)I" } : Jvm.MethodName)) ∈ BIG := gdW3 113 (by decide +kernel) rfl
theorem bw_594 : (Jvm.Cond.code ({ cls := "TollClock", name := "type", desc := "(C)I" } : Jvm.MethodName) prog_1_method_2_code (2 : Nat) (Option.some Jvm.ClassFile.FieldType.int)) ∈ BIG := gdW3 114 (by decide +kernel) rfl
theorem bw_595 : (Jvm.Cond.classLink "TollClock" (78 : Nat) "java/lang/IllegalStateException") ∈ BIG := gdW3 115 (by decide +kernel) rfl
theorem bw_666 : (Jvm.Cond.arrayClass Jvm.ClassFile.FieldType.byte) ∈ BIG := gdW3 186 (by decide +kernel) rfl
theorem bw_667 : (Jvm.Cond.methodLink "TollClock" (85 : Nat) ({ cls := "TollClock$Text", name := "append", desc := "(C)V" } : Jvm.MethodName)) ∈ BIG := gdW3 187 (by decide +kernel) rfl
theorem bw_668 : (Jvm.Cond.instanceMethod ({ cls := "TollClock$Text", name := "append", desc := "(C)V" } : Jvm.MethodName)) ∈ BIG := gdW3 188 (by decide +kernel) rfl
theorem bw_669 : (Jvm.Cond.selects "TollClock$Text" ({ cls := "TollClock$Text", name := "append", desc := "(C)V" } : Jvm.MethodName) ({ cls := "TollClock$Text", name := "append", desc := "(C)V" } : Jvm.MethodName)) ∈ BIG := gdW3 189 (by decide +kernel) rfl
theorem bw_670 : (Jvm.Cond.code ({ cls := "TollClock$Text", name := "append", desc := "(C)V" } : Jvm.MethodName) prog_11_method_3_code (2 : Nat) (Option.none : Option Jvm.ClassFile.FieldType)) ∈ BIG := gdW3 190 (by decide +kernel) rfl
theorem bw_674 : (Jvm.Cond.classLink "TollClockLaw" (19 : Nat) "java/lang/IllegalArgumentException") ∈ BIG := gdW3 194 (by decide +kernel) rfl
theorem bw_675 : (Jvm.Cond.methodLink "TollClockLaw" (15 : Nat) ({ cls := "TollClock", name := "addParty", desc := "()I" } : Jvm.MethodName)) ∈ BIG := gdW3 195 (by decide +kernel) rfl
theorem bw_676 : (Jvm.Cond.instanceMethod ({ cls := "TollClock", name := "addParty", desc := "()I" } : Jvm.MethodName)) ∈ BIG := gdW3 196 (by decide +kernel) rfl
theorem bw_677 : (Jvm.Cond.selects "TollClock" ({ cls := "TollClock", name := "addParty", desc := "()I" } : Jvm.MethodName) ({ cls := "TollClock", name := "addParty", desc := "()I" } : Jvm.MethodName)) ∈ BIG := gdW3 197 (by decide +kernel) rfl
theorem bw_678 : (Jvm.Cond.code ({ cls := "TollClock", name := "addParty", desc := "()I" } : Jvm.MethodName) prog_1_method_3_code (1 : Nat) (Option.some Jvm.ClassFile.FieldType.int)) ∈ BIG := gdW3 198 (by decide +kernel) rfl
theorem bw_679 : (Jvm.Cond.methodLink "TollClock" (89 : Nat) ({ cls := "TollClock", name := "setAside", desc := "()V" } : Jvm.MethodName)) ∈ BIG := gdW3 199 (by decide +kernel) rfl
theorem bw_681 : (Jvm.Cond.instanceMethod ({ cls := "TollClock", name := "setAside", desc := "()V" } : Jvm.MethodName)) ∈ BIG := gdW3 201 (by decide +kernel) rfl
theorem bw_682 : (Jvm.Cond.code ({ cls := "TollClock", name := "setAside", desc := "()V" } : Jvm.MethodName) prog_1_method_101_code (2 : Nat) (Option.none : Option Jvm.ClassFile.FieldType)) ∈ BIG := gdW3 202 (by decide +kernel) rfl
theorem bw_683 : (Jvm.Cond.methodLink "TollClock" (505 : Nat) ({ cls := "TollClock$Docket", name := "copy", desc := "(LTollClock$Docket;)V" } : Jvm.MethodName)) ∈ BIG := gdW3 203 (by decide +kernel) rfl
theorem bw_684 : (Jvm.Cond.instanceMethod ({ cls := "TollClock$Docket", name := "copy", desc := "(LTollClock$Docket;)V" } : Jvm.MethodName)) ∈ BIG := gdW3 204 (by decide +kernel) rfl
theorem bw_685 : (Jvm.Cond.selects "TollClock$Docket" ({ cls := "TollClock$Docket", name := "copy", desc := "(LTollClock$Docket;)V" } : Jvm.MethodName) ({ cls := "TollClock$Docket", name := "copy", desc := "(LTollClock$Docket;)V" } : Jvm.MethodName)) ∈ BIG := gdW3 205 (by decide +kernel) rfl
theorem bw_686 : (Jvm.Cond.code ({ cls := "TollClock$Docket", name := "copy", desc := "(LTollClock$Docket;)V" } : Jvm.MethodName) prog_5_method_2_code (2 : Nat) (Option.none : Option Jvm.ClassFile.FieldType)) ∈ BIG := gdW3 206 (by decide +kernel) rfl
theorem bw_687 : (Jvm.Cond.methodLink "TollClock$Docket" (51 : Nat) ({ cls := "TollClock$Parties", name := "copy", desc := "(LTollClock$Parties;)V" } : Jvm.MethodName)) ∈ BIG := gdW3 207 (by decide +kernel) rfl
theorem bw_688 : (Jvm.Cond.instanceMethod ({ cls := "TollClock$Parties", name := "copy", desc := "(LTollClock$Parties;)V" } : Jvm.MethodName)) ∈ BIG := gdW3 208 (by decide +kernel) rfl
theorem bw_689 : (Jvm.Cond.selects "TollClock$Parties" ({ cls := "TollClock$Parties", name := "copy", desc := "(LTollClock$Parties;)V" } : Jvm.MethodName) ({ cls := "TollClock$Parties", name := "copy", desc := "(LTollClock$Parties;)V" } : Jvm.MethodName)) ∈ BIG := gdW3 209 (by decide +kernel) rfl
theorem bw_690 : (Jvm.Cond.code ({ cls := "TollClock$Parties", name := "copy", desc := "(LTollClock$Parties;)V" } : Jvm.MethodName) prog_7_method_2_code (2 : Nat) (Option.none : Option Jvm.ClassFile.FieldType)) ∈ BIG := gdW3 210 (by decide +kernel) rfl
theorem bw_691 : (Jvm.Cond.methodLink "TollClock$Parties" (18 : Nat) ({ cls := "java/lang/System", name := "arraycopy", desc := "(Ljava/lang/Object;ILjava/lang/Object;II)V" } : Jvm.MethodName)) ∈ BIG := gdW3 211 (by decide +kernel) rfl
theorem bw_692 : (Jvm.Cond.static ({ cls := "java/lang/System", name := "arraycopy", desc := "(Ljava/lang/Object;ILjava/lang/Object;II)V" } : Jvm.MethodName)) ∈ BIG := gdW3 212 (by decide +kernel) rfl
theorem bw_693 : (Jvm.Cond.native ({ cls := "java/lang/System", name := "arraycopy", desc := "(Ljava/lang/Object;ILjava/lang/Object;II)V" } : Jvm.MethodName)) ∈ BIG := gdW3 213 (by decide +kernel) rfl
theorem bw_694 : (Jvm.Cond.methodLink "TollClock$Docket" (55 : Nat) ({ cls := "TollClock$Calendar", name := "copy", desc := "(LTollClock$Calendar;)V" } : Jvm.MethodName)) ∈ BIG := gdW3 214 (by decide +kernel) rfl
theorem bw_695 : (Jvm.Cond.instanceMethod ({ cls := "TollClock$Calendar", name := "copy", desc := "(LTollClock$Calendar;)V" } : Jvm.MethodName)) ∈ BIG := gdW3 215 (by decide +kernel) rfl
theorem bw_696 : (Jvm.Cond.selects "TollClock$Calendar" ({ cls := "TollClock$Calendar", name := "copy", desc := "(LTollClock$Calendar;)V" } : Jvm.MethodName) ({ cls := "TollClock$Calendar", name := "copy", desc := "(LTollClock$Calendar;)V" } : Jvm.MethodName)) ∈ BIG := gdW3 216 (by decide +kernel) rfl
theorem bw_697 : (Jvm.Cond.code ({ cls := "TollClock$Calendar", name := "copy", desc := "(LTollClock$Calendar;)V" } : Jvm.MethodName) prog_2_method_2_code (2 : Nat) (Option.none : Option Jvm.ClassFile.FieldType)) ∈ BIG := gdW3 217 (by decide +kernel) rfl
theorem bw_698 : (Jvm.Cond.methodLink "TollClock$Calendar" (19 : Nat) ({ cls := "java/lang/System", name := "arraycopy", desc := "(Ljava/lang/Object;ILjava/lang/Object;II)V" } : Jvm.MethodName)) ∈ BIG := gdW3 218 (by decide +kernel) rfl
theorem bw_699 : (Jvm.Cond.methodLink "TollClock$Docket" (58 : Nat) ({ cls := "TollClock$Rules", name := "copy", desc := "(LTollClock$Rules;)V" } : Jvm.MethodName)) ∈ BIG := gdW3 219 (by decide +kernel) rfl
theorem bw_700 : (Jvm.Cond.instanceMethod ({ cls := "TollClock$Rules", name := "copy", desc := "(LTollClock$Rules;)V" } : Jvm.MethodName)) ∈ BIG := gdW3 220 (by decide +kernel) rfl
theorem bw_701 : (Jvm.Cond.selects "TollClock$Rules" ({ cls := "TollClock$Rules", name := "copy", desc := "(LTollClock$Rules;)V" } : Jvm.MethodName) ({ cls := "TollClock$Rules", name := "copy", desc := "(LTollClock$Rules;)V" } : Jvm.MethodName)) ∈ BIG := gdW3 221 (by decide +kernel) rfl
theorem bw_702 : (Jvm.Cond.code ({ cls := "TollClock$Rules", name := "copy", desc := "(LTollClock$Rules;)V" } : Jvm.MethodName) prog_9_method_2_code (2 : Nat) (Option.none : Option Jvm.ClassFile.FieldType)) ∈ BIG := gdW3 222 (by decide +kernel) rfl
theorem bw_703 : (Jvm.Cond.methodLink "TollClock$Rules" (22 : Nat) ({ cls := "java/lang/System", name := "arraycopy", desc := "(Ljava/lang/Object;ILjava/lang/Object;II)V" } : Jvm.MethodName)) ∈ BIG := gdW3 223 (by decide +kernel) rfl
theorem bw_704 : (Jvm.Cond.methodLink "TollClock$Docket" (61 : Nat) ({ cls := "TollClock$Deadlines", name := "copy", desc := "(LTollClock$Deadlines;)V" } : Jvm.MethodName)) ∈ BIG := gdW3 224 (by decide +kernel) rfl
theorem bw_705 : (Jvm.Cond.instanceMethod ({ cls := "TollClock$Deadlines", name := "copy", desc := "(LTollClock$Deadlines;)V" } : Jvm.MethodName)) ∈ BIG := gdW3 225 (by decide +kernel) rfl
theorem bw_706 : (Jvm.Cond.selects "TollClock$Deadlines" ({ cls := "TollClock$Deadlines", name := "copy", desc := "(LTollClock$Deadlines;)V" } : Jvm.MethodName) ({ cls := "TollClock$Deadlines", name := "copy", desc := "(LTollClock$Deadlines;)V" } : Jvm.MethodName)) ∈ BIG := gdW3 226 (by decide +kernel) rfl
theorem bw_707 : (Jvm.Cond.code ({ cls := "TollClock$Deadlines", name := "copy", desc := "(LTollClock$Deadlines;)V" } : Jvm.MethodName) prog_4_method_2_code (2 : Nat) (Option.none : Option Jvm.ClassFile.FieldType)) ∈ BIG := gdW3 227 (by decide +kernel) rfl
theorem bw_708 : (Jvm.Cond.methodLink "TollClock$Deadlines" (47 : Nat) ({ cls := "java/lang/System", name := "arraycopy", desc := "(Ljava/lang/Object;ILjava/lang/Object;II)V" } : Jvm.MethodName)) ∈ BIG := gdW3 228 (by decide +kernel) rfl
theorem bw_709 : (Jvm.Cond.methodLink "TollClock$Docket" (64 : Nat) ({ cls := "TollClock$Stays", name := "copy", desc := "(LTollClock$Stays;)V" } : Jvm.MethodName)) ∈ BIG := gdW3 229 (by decide +kernel) rfl
theorem bw_710 : (Jvm.Cond.instanceMethod ({ cls := "TollClock$Stays", name := "copy", desc := "(LTollClock$Stays;)V" } : Jvm.MethodName)) ∈ BIG := gdW3 230 (by decide +kernel) rfl
theorem bw_711 : (Jvm.Cond.selects "TollClock$Stays" ({ cls := "TollClock$Stays", name := "copy", desc := "(LTollClock$Stays;)V" } : Jvm.MethodName) ({ cls := "TollClock$Stays", name := "copy", desc := "(LTollClock$Stays;)V" } : Jvm.MethodName)) ∈ BIG := gdW3 231 (by decide +kernel) rfl
theorem bw_712 : (Jvm.Cond.code ({ cls := "TollClock$Stays", name := "copy", desc := "(LTollClock$Stays;)V" } : Jvm.MethodName) prog_10_method_2_code (2 : Nat) (Option.none : Option Jvm.ClassFile.FieldType)) ∈ BIG := gdW3 232 (by decide +kernel) rfl
theorem bw_713 : (Jvm.Cond.methodLink "TollClock$Stays" (24 : Nat) ({ cls := "java/lang/System", name := "arraycopy", desc := "(Ljava/lang/Object;ILjava/lang/Object;II)V" } : Jvm.MethodName)) ∈ BIG := gdW3 233 (by decide +kernel) rfl
theorem bw_714 : (Jvm.Cond.methodLink "TollClock$Docket" (67 : Nat) ({ cls := "TollClock$Claims", name := "copy", desc := "(LTollClock$Claims;)V" } : Jvm.MethodName)) ∈ BIG := gdW3 234 (by decide +kernel) rfl
theorem bw_715 : (Jvm.Cond.instanceMethod ({ cls := "TollClock$Claims", name := "copy", desc := "(LTollClock$Claims;)V" } : Jvm.MethodName)) ∈ BIG := gdW3 235 (by decide +kernel) rfl
theorem bw_716 : (Jvm.Cond.selects "TollClock$Claims" ({ cls := "TollClock$Claims", name := "copy", desc := "(LTollClock$Claims;)V" } : Jvm.MethodName) ({ cls := "TollClock$Claims", name := "copy", desc := "(LTollClock$Claims;)V" } : Jvm.MethodName)) ∈ BIG := gdW3 236 (by decide +kernel) rfl
theorem bw_717 : (Jvm.Cond.code ({ cls := "TollClock$Claims", name := "copy", desc := "(LTollClock$Claims;)V" } : Jvm.MethodName) prog_3_method_2_code (2 : Nat) (Option.none : Option Jvm.ClassFile.FieldType)) ∈ BIG := gdW3 237 (by decide +kernel) rfl
theorem bw_718 : (Jvm.Cond.methodLink "TollClock$Claims" (37 : Nat) ({ cls := "TollClock$Deadlines", name := "copy", desc := "(LTollClock$Deadlines;)V" } : Jvm.MethodName)) ∈ BIG := gdW3 238 (by decide +kernel) rfl
theorem bw_719 : (Jvm.Cond.methodLink "TollClock$Claims" (41 : Nat) ({ cls := "java/lang/System", name := "arraycopy", desc := "(Ljava/lang/Object;ILjava/lang/Object;II)V" } : Jvm.MethodName)) ∈ BIG := gdW3 239 (by decide +kernel) rfl
theorem bw_720 : (Jvm.Cond.methodLink "TollClock" (92 : Nat) ({ cls := "TollClock", name := "tryAddParty", desc := "()I" } : Jvm.MethodName)) ∈ BIG := gdW4 0 (by decide +kernel) rfl
theorem bw_722 : (Jvm.Cond.instanceMethod ({ cls := "TollClock", name := "tryAddParty", desc := "()I" } : Jvm.MethodName)) ∈ BIG := gdW4 2 (by decide +kernel) rfl
theorem bw_723 : (Jvm.Cond.code ({ cls := "TollClock", name := "tryAddParty", desc := "()I" } : Jvm.MethodName) prog_1_method_9_code (2 : Nat) (Option.some Jvm.ClassFile.FieldType.int)) ∈ BIG := gdW4 3 (by decide +kernel) rfl
theorem bw_724 : (Jvm.Cond.methodLink "TollClock" (100 : Nat) ({ cls := "TollClock$Text", name := "readName", desc := "([I)I" } : Jvm.MethodName)) ∈ BIG := gdW4 4 (by decide +kernel) rfl
theorem bw_725 : (Jvm.Cond.instanceMethod ({ cls := "TollClock$Text", name := "readName", desc := "([I)I" } : Jvm.MethodName)) ∈ BIG := gdW4 5 (by decide +kernel) rfl
theorem bw_726 : (Jvm.Cond.selects "TollClock$Text" ({ cls := "TollClock$Text", name := "readName", desc := "([I)I" } : Jvm.MethodName) ({ cls := "TollClock$Text", name := "readName", desc := "([I)I" } : Jvm.MethodName)) ∈ BIG := gdW4 6 (by decide +kernel) rfl
theorem bw_727 : (Jvm.Cond.code ({ cls := "TollClock$Text", name := "readName", desc := "([I)I" } : Jvm.MethodName) prog_11_method_7_code (6 : Nat) (Option.some Jvm.ClassFile.FieldType.int)) ∈ BIG := gdW4 7 (by decide +kernel) rfl
theorem bw_728 : (Jvm.Cond.methodLink "TollClock$Text" (26 : Nat) ({ cls := "TollClock$Text", name := "isHigh", desc := "(I)Z" } : Jvm.MethodName)) ∈ BIG := gdW4 8 (by decide +kernel) rfl
theorem bw_729 : (Jvm.Cond.static ({ cls := "TollClock$Text", name := "isHigh", desc := "(I)Z" } : Jvm.MethodName)) ∈ BIG := gdW4 9 (by decide +kernel) rfl
theorem bw_730 : (Jvm.Cond.code ({ cls := "TollClock$Text", name := "isHigh", desc := "(I)Z" } : Jvm.MethodName) prog_11_method_8_code (1 : Nat) (Option.some Jvm.ClassFile.FieldType.boolean)) ∈ BIG := gdW4 10 (by decide +kernel) rfl
theorem bw_731 : (Jvm.Cond.constant "TollClock$Text" (24 : Nat) (55296 : Int32)) ∈ BIG := gdW4 11 (by decide +kernel) rfl
theorem bw_732 : (Jvm.Cond.constant "TollClock$Text" (41 : Nat) (56319 : Int32)) ∈ BIG := gdW4 12 (by decide +kernel) rfl
theorem bw_733 : (Jvm.Cond.methodLink "TollClock$Text" (30 : Nat) ({ cls := "TollClock$Text", name := "signAt", desc := "(I)C" } : Jvm.MethodName)) ∈ BIG := gdW4 13 (by decide +kernel) rfl
theorem bw_734 : (Jvm.Cond.instanceMethod ({ cls := "TollClock$Text", name := "signAt", desc := "(I)C" } : Jvm.MethodName)) ∈ BIG := gdW4 14 (by decide +kernel) rfl
theorem bw_735 : (Jvm.Cond.selects "TollClock$Text" ({ cls := "TollClock$Text", name := "signAt", desc := "(I)C" } : Jvm.MethodName) ({ cls := "TollClock$Text", name := "signAt", desc := "(I)C" } : Jvm.MethodName)) ∈ BIG := gdW4 15 (by decide +kernel) rfl
theorem bw_736 : (Jvm.Cond.code ({ cls := "TollClock$Text", name := "signAt", desc := "(I)C" } : Jvm.MethodName) prog_11_method_6_code (2 : Nat) (Option.some Jvm.ClassFile.FieldType.char)) ∈ BIG := gdW4 16 (by decide +kernel) rfl
theorem bw_737 : (Jvm.Cond.methodLink "TollClock$Text" (34 : Nat) ({ cls := "TollClock$Text", name := "isLow", desc := "(I)Z" } : Jvm.MethodName)) ∈ BIG := gdW4 17 (by decide +kernel) rfl
theorem bw_738 : (Jvm.Cond.static ({ cls := "TollClock$Text", name := "isLow", desc := "(I)Z" } : Jvm.MethodName)) ∈ BIG := gdW4 18 (by decide +kernel) rfl
theorem bw_739 : (Jvm.Cond.code ({ cls := "TollClock$Text", name := "isLow", desc := "(I)Z" } : Jvm.MethodName) prog_11_method_9_code (1 : Nat) (Option.some Jvm.ClassFile.FieldType.boolean)) ∈ BIG := gdW4 19 (by decide +kernel) rfl
theorem bw_740 : (Jvm.Cond.constant "TollClock$Text" (25 : Nat) (56320 : Int32)) ∈ BIG := gdW4 20 (by decide +kernel) rfl
theorem bw_741 : (Jvm.Cond.constant "TollClock$Text" (42 : Nat) (57343 : Int32)) ∈ BIG := gdW4 21 (by decide +kernel) rfl
theorem bw_742 : (Jvm.Cond.methodLink "TollClock$Text" (37 : Nat) ({ cls := "TollClock$Text", name := "joinPair", desc := "(II)I" } : Jvm.MethodName)) ∈ BIG := gdW4 22 (by decide +kernel) rfl
theorem bw_743 : (Jvm.Cond.static ({ cls := "TollClock$Text", name := "joinPair", desc := "(II)I" } : Jvm.MethodName)) ∈ BIG := gdW4 23 (by decide +kernel) rfl
theorem bw_744 : (Jvm.Cond.code ({ cls := "TollClock$Text", name := "joinPair", desc := "(II)I" } : Jvm.MethodName) prog_11_method_10_code (2 : Nat) (Option.some Jvm.ClassFile.FieldType.int)) ∈ BIG := gdW4 24 (by decide +kernel) rfl
theorem bw_745 : (Jvm.Cond.constant "TollClock$Text" (19 : Nat) (65536 : Int32)) ∈ BIG := gdW4 25 (by decide +kernel) rfl
theorem bw_746 : (Jvm.Cond.methodLink "TollClock" (104 : Nat) ({ cls := "TollClock$Text", name := "clear", desc := "()V" } : Jvm.MethodName)) ∈ BIG := gdW4 26 (by decide +kernel) rfl
theorem bw_747 : (Jvm.Cond.instanceMethod ({ cls := "TollClock$Text", name := "clear", desc := "()V" } : Jvm.MethodName)) ∈ BIG := gdW4 27 (by decide +kernel) rfl
theorem bw_748 : (Jvm.Cond.selects "TollClock$Text" ({ cls := "TollClock$Text", name := "clear", desc := "()V" } : Jvm.MethodName) ({ cls := "TollClock$Text", name := "clear", desc := "()V" } : Jvm.MethodName)) ∈ BIG := gdW4 28 (by decide +kernel) rfl
theorem bw_749 : (Jvm.Cond.code ({ cls := "TollClock$Text", name := "clear", desc := "()V" } : Jvm.MethodName) prog_11_method_2_code (1 : Nat) (Option.none : Option Jvm.ClassFile.FieldType)) ∈ BIG := gdW4 29 (by decide +kernel) rfl
theorem bw_750 : (Jvm.Cond.methodLink "TollClock" (111 : Nat) ({ cls := "TollClock$Parties", name := "find", desc := "([II)I" } : Jvm.MethodName)) ∈ BIG := gdW4 30 (by decide +kernel) rfl
theorem bw_751 : (Jvm.Cond.instanceMethod ({ cls := "TollClock$Parties", name := "find", desc := "([II)I" } : Jvm.MethodName)) ∈ BIG := gdW4 31 (by decide +kernel) rfl
theorem bw_752 : (Jvm.Cond.selects "TollClock$Parties" ({ cls := "TollClock$Parties", name := "find", desc := "([II)I" } : Jvm.MethodName) ({ cls := "TollClock$Parties", name := "find", desc := "([II)I" } : Jvm.MethodName)) ∈ BIG := gdW4 32 (by decide +kernel) rfl
theorem bw_753 : (Jvm.Cond.code ({ cls := "TollClock$Parties", name := "find", desc := "([II)I" } : Jvm.MethodName) prog_7_method_5_code (4 : Nat) (Option.some Jvm.ClassFile.FieldType.int)) ∈ BIG := gdW4 33 (by decide +kernel) rfl
theorem bw_754 : (Jvm.Cond.methodLink "TollClock$Parties" (28 : Nat) ({ cls := "TollClock$Parties", name := "isNamed", desc := "(I[II)Z" } : Jvm.MethodName)) ∈ BIG := gdW4 34 (by decide +kernel) rfl
theorem bw_756 : (Jvm.Cond.instanceMethod ({ cls := "TollClock$Parties", name := "isNamed", desc := "(I[II)Z" } : Jvm.MethodName)) ∈ BIG := gdW4 36 (by decide +kernel) rfl
theorem bw_757 : (Jvm.Cond.code ({ cls := "TollClock$Parties", name := "isNamed", desc := "(I[II)Z" } : Jvm.MethodName) prog_7_method_6_code (5 : Nat) (Option.some Jvm.ClassFile.FieldType.boolean)) ∈ BIG := gdW4 37 (by decide +kernel) rfl
theorem bw_758 : (Jvm.Cond.methodLink "TollClock" (143 : Nat) ({ cls := "TollClock$Parties", name := "add", desc := "([II)I" } : Jvm.MethodName)) ∈ BIG := gdW4 38 (by decide +kernel) rfl
theorem bw_759 : (Jvm.Cond.instanceMethod ({ cls := "TollClock$Parties", name := "add", desc := "([II)I" } : Jvm.MethodName)) ∈ BIG := gdW4 39 (by decide +kernel) rfl
theorem bw_760 : (Jvm.Cond.selects "TollClock$Parties" ({ cls := "TollClock$Parties", name := "add", desc := "([II)I" } : Jvm.MethodName) ({ cls := "TollClock$Parties", name := "add", desc := "([II)I" } : Jvm.MethodName)) ∈ BIG := gdW4 40 (by decide +kernel) rfl
theorem bw_761 : (Jvm.Cond.code ({ cls := "TollClock$Parties", name := "add", desc := "([II)I" } : Jvm.MethodName) prog_7_method_4_code (3 : Nat) (Option.some Jvm.ClassFile.FieldType.int)) ∈ BIG := gdW4 41 (by decide +kernel) rfl
theorem bw_762 : (Jvm.Cond.methodLink "TollClock" (96 : Nat) ({ cls := "TollClock", name := "settle", desc := "(I)I" } : Jvm.MethodName)) ∈ BIG := gdW4 42 (by decide +kernel) rfl
theorem bw_764 : (Jvm.Cond.instanceMethod ({ cls := "TollClock", name := "settle", desc := "(I)I" } : Jvm.MethodName)) ∈ BIG := gdW4 44 (by decide +kernel) rfl
theorem bw_765 : (Jvm.Cond.code ({ cls := "TollClock", name := "settle", desc := "(I)I" } : Jvm.MethodName) prog_1_method_103_code (2 : Nat) (Option.some Jvm.ClassFile.FieldType.int)) ∈ BIG := gdW4 45 (by decide +kernel) rfl
theorem bw_766 : (Jvm.Cond.classLink "TollClock" (132 : Nat) "java/lang/IndexOutOfBoundsException") ∈ BIG := gdW4 46 (by decide +kernel) rfl
theorem bw_782 : (Jvm.Cond.classLink "TollClock" (196 : Nat) "java/lang/IllegalArgumentException") ∈ BIG := gdW4 62 (by decide +kernel) rfl
theorem bw_799 : (Jvm.Cond.classLink "TollClock" (476 : Nat) "java/lang/UnsupportedOperationException") ∈ BIG := gdW4 79 (by decide +kernel) rfl
theorem bw_815 : (Jvm.Cond.classLink "TollClock" (117 : Nat) "java/util/NoSuchElementException") ∈ BIG := gdW4 95 (by decide +kernel) rfl
theorem bw_831 : (Jvm.Cond.methodLink "TollClock" (519 : Nat) ({ cls := "java/lang/Math", name := "min", desc := "(II)I" } : Jvm.MethodName)) ∈ BIG := gdW4 111 (by decide +kernel) rfl
theorem bw_835 : (Jvm.Cond.classLink "TollClockLaw" (24 : Nat) "java/util/NoSuchElementException") ∈ BIG := gdW4 115 (by decide +kernel) rfl
theorem bw_836 : (Jvm.Cond.methodLink "TollClockLaw" (21 : Nat) ({ cls := "TollClock", name := "findParty", desc := "()I" } : Jvm.MethodName)) ∈ BIG := gdW4 116 (by decide +kernel) rfl
theorem bw_837 : (Jvm.Cond.instanceMethod ({ cls := "TollClock", name := "findParty", desc := "()I" } : Jvm.MethodName)) ∈ BIG := gdW4 117 (by decide +kernel) rfl
theorem bw_838 : (Jvm.Cond.selects "TollClock" ({ cls := "TollClock", name := "findParty", desc := "()I" } : Jvm.MethodName) ({ cls := "TollClock", name := "findParty", desc := "()I" } : Jvm.MethodName)) ∈ BIG := gdW4 118 (by decide +kernel) rfl
theorem bw_839 : (Jvm.Cond.code ({ cls := "TollClock", name := "findParty", desc := "()I" } : Jvm.MethodName) prog_1_method_4_code (3 : Nat) (Option.some Jvm.ClassFile.FieldType.int)) ∈ BIG := gdW4 119 (by decide +kernel) rfl
theorem bw_844 : (Jvm.Cond.classLink "TollClockLaw" (30 : Nat) "java/lang/IndexOutOfBoundsException") ∈ BIG := gdW4 124 (by decide +kernel) rfl
theorem bw_865 : (Jvm.Cond.methodLink "TollClockLaw" (26 : Nat) ({ cls := "TollClock", name := "nameLength", desc := "(I)I" } : Jvm.MethodName)) ∈ BIG := gdW4 145 (by decide +kernel) rfl
theorem bw_866 : (Jvm.Cond.instanceMethod ({ cls := "TollClock", name := "nameLength", desc := "(I)I" } : Jvm.MethodName)) ∈ BIG := gdW4 146 (by decide +kernel) rfl
theorem bw_867 : (Jvm.Cond.selects "TollClock" ({ cls := "TollClock", name := "nameLength", desc := "(I)I" } : Jvm.MethodName) ({ cls := "TollClock", name := "nameLength", desc := "(I)I" } : Jvm.MethodName)) ∈ BIG := gdW4 147 (by decide +kernel) rfl
theorem bw_868 : (Jvm.Cond.code ({ cls := "TollClock", name := "nameLength", desc := "(I)I" } : Jvm.MethodName) prog_1_method_6_code (2 : Nat) (Option.some Jvm.ClassFile.FieldType.int)) ∈ BIG := gdW4 148 (by decide +kernel) rfl
theorem bw_869 : (Jvm.Cond.methodLink "TollClock" (125 : Nat) ({ cls := "TollClock", name := "needParty", desc := "(I)V" } : Jvm.MethodName)) ∈ BIG := gdW4 149 (by decide +kernel) rfl
theorem bw_871 : (Jvm.Cond.instanceMethod ({ cls := "TollClock", name := "needParty", desc := "(I)V" } : Jvm.MethodName)) ∈ BIG := gdW4 151 (by decide +kernel) rfl
theorem bw_872 : (Jvm.Cond.code ({ cls := "TollClock", name := "needParty", desc := "(I)V" } : Jvm.MethodName) prog_1_method_10_code (2 : Nat) (Option.none : Option Jvm.ClassFile.FieldType)) ∈ BIG := gdW4 152 (by decide +kernel) rfl
theorem bw_873 : (Jvm.Cond.methodLink "TollClock" (146 : Nat) ({ cls := "TollClock$Parties", name := "has", desc := "(I)Z" } : Jvm.MethodName)) ∈ BIG := gdW4 153 (by decide +kernel) rfl
theorem bw_874 : (Jvm.Cond.instanceMethod ({ cls := "TollClock$Parties", name := "has", desc := "(I)Z" } : Jvm.MethodName)) ∈ BIG := gdW4 154 (by decide +kernel) rfl
theorem bw_875 : (Jvm.Cond.selects "TollClock$Parties" ({ cls := "TollClock$Parties", name := "has", desc := "(I)Z" } : Jvm.MethodName) ({ cls := "TollClock$Parties", name := "has", desc := "(I)Z" } : Jvm.MethodName)) ∈ BIG := gdW4 155 (by decide +kernel) rfl
theorem bw_876 : (Jvm.Cond.code ({ cls := "TollClock$Parties", name := "has", desc := "(I)Z" } : Jvm.MethodName) prog_7_method_3_code (2 : Nat) (Option.some Jvm.ClassFile.FieldType.boolean)) ∈ BIG := gdW4 156 (by decide +kernel) rfl
theorem bw_881 : (Jvm.Cond.methodLink "TollClockLaw" (32 : Nat) ({ cls := "TollClock", name := "nameCodePoint", desc := "(II)I" } : Jvm.MethodName)) ∈ BIG := gdW4 161 (by decide +kernel) rfl
theorem bw_882 : (Jvm.Cond.instanceMethod ({ cls := "TollClock", name := "nameCodePoint", desc := "(II)I" } : Jvm.MethodName)) ∈ BIG := gdW4 162 (by decide +kernel) rfl
theorem bw_883 : (Jvm.Cond.selects "TollClock" ({ cls := "TollClock", name := "nameCodePoint", desc := "(II)I" } : Jvm.MethodName) ({ cls := "TollClock", name := "nameCodePoint", desc := "(II)I" } : Jvm.MethodName)) ∈ BIG := gdW4 163 (by decide +kernel) rfl
theorem bw_884 : (Jvm.Cond.code ({ cls := "TollClock", name := "nameCodePoint", desc := "(II)I" } : Jvm.MethodName) prog_1_method_7_code (3 : Nat) (Option.some Jvm.ClassFile.FieldType.int)) ∈ BIG := gdW4 164 (by decide +kernel) rfl
theorem bw_889 : (Jvm.Cond.methodLink "TollClockLaw" (36 : Nat) ({ cls := "TollClock", name := "writeNameReversed", desc := "(I)I" } : Jvm.MethodName)) ∈ BIG := gdW4 169 (by decide +kernel) rfl
theorem bw_890 : (Jvm.Cond.instanceMethod ({ cls := "TollClock", name := "writeNameReversed", desc := "(I)I" } : Jvm.MethodName)) ∈ BIG := gdW4 170 (by decide +kernel) rfl
theorem bw_891 : (Jvm.Cond.selects "TollClock" ({ cls := "TollClock", name := "writeNameReversed", desc := "(I)I" } : Jvm.MethodName) ({ cls := "TollClock", name := "writeNameReversed", desc := "(I)I" } : Jvm.MethodName)) ∈ BIG := gdW4 171 (by decide +kernel) rfl
theorem bw_892 : (Jvm.Cond.code ({ cls := "TollClock", name := "writeNameReversed", desc := "(I)I" } : Jvm.MethodName) prog_1_method_8_code (3 : Nat) (Option.some Jvm.ClassFile.FieldType.int)) ∈ BIG := gdW4 172 (by decide +kernel) rfl
theorem bw_893 : (Jvm.Cond.methodLink "TollClock" (140 : Nat) ({ cls := "TollClock$Text", name := "appendCodePoint", desc := "(I)V" } : Jvm.MethodName)) ∈ BIG := gdW4 173 (by decide +kernel) rfl
theorem bw_894 : (Jvm.Cond.instanceMethod ({ cls := "TollClock$Text", name := "appendCodePoint", desc := "(I)V" } : Jvm.MethodName)) ∈ BIG := gdW4 174 (by decide +kernel) rfl
theorem bw_895 : (Jvm.Cond.selects "TollClock$Text" ({ cls := "TollClock$Text", name := "appendCodePoint", desc := "(I)V" } : Jvm.MethodName) ({ cls := "TollClock$Text", name := "appendCodePoint", desc := "(I)V" } : Jvm.MethodName)) ∈ BIG := gdW4 175 (by decide +kernel) rfl
theorem bw_896 : (Jvm.Cond.code ({ cls := "TollClock$Text", name := "appendCodePoint", desc := "(I)V" } : Jvm.MethodName) prog_11_method_4_code (2 : Nat) (Option.none : Option Jvm.ClassFile.FieldType)) ∈ BIG := gdW4 176 (by decide +kernel) rfl
theorem bw_897 : (Jvm.Cond.methodLink "TollClock$Text" (20 : Nat) ({ cls := "TollClock$Text", name := "append", desc := "(C)V" } : Jvm.MethodName)) ∈ BIG := gdW4 177 (by decide +kernel) rfl
theorem bw_901 : (Jvm.Cond.methodLink "TollClockLaw" (39 : Nat) ({ cls := "TollClock", name := "advance", desc := "(I)I" } : Jvm.MethodName)) ∈ BIG := gdW4 181 (by decide +kernel) rfl
theorem bw_902 : (Jvm.Cond.instanceMethod ({ cls := "TollClock", name := "advance", desc := "(I)I" } : Jvm.MethodName)) ∈ BIG := gdW4 182 (by decide +kernel) rfl
theorem bw_903 : (Jvm.Cond.selects "TollClock" ({ cls := "TollClock", name := "advance", desc := "(I)I" } : Jvm.MethodName) ({ cls := "TollClock", name := "advance", desc := "(I)I" } : Jvm.MethodName)) ∈ BIG := gdW4 183 (by decide +kernel) rfl
theorem bw_904 : (Jvm.Cond.code ({ cls := "TollClock", name := "advance", desc := "(I)I" } : Jvm.MethodName) prog_1_method_12_code (2 : Nat) (Option.some Jvm.ClassFile.FieldType.int)) ∈ BIG := gdW4 184 (by decide +kernel) rfl
theorem bw_905 : (Jvm.Cond.methodLink "TollClock" (157 : Nat) ({ cls := "TollClock", name := "tryAdvance", desc := "(I)I" } : Jvm.MethodName)) ∈ BIG := gdW4 185 (by decide +kernel) rfl
theorem bw_907 : (Jvm.Cond.instanceMethod ({ cls := "TollClock", name := "tryAdvance", desc := "(I)I" } : Jvm.MethodName)) ∈ BIG := gdW4 187 (by decide +kernel) rfl
theorem bw_908 : (Jvm.Cond.code ({ cls := "TollClock", name := "tryAdvance", desc := "(I)I" } : Jvm.MethodName) prog_1_method_19_code (2 : Nat) (Option.some Jvm.ClassFile.FieldType.int)) ∈ BIG := gdW4 188 (by decide +kernel) rfl
theorem bw_912 : (Jvm.Cond.methodLink "TollClockLaw" (42 : Nat) ({ cls := "TollClock", name := "weekday", desc := "(I)I" } : Jvm.MethodName)) ∈ BIG := gdW4 192 (by decide +kernel) rfl
theorem bw_913 : (Jvm.Cond.instanceMethod ({ cls := "TollClock", name := "weekday", desc := "(I)I" } : Jvm.MethodName)) ∈ BIG := gdW4 193 (by decide +kernel) rfl
theorem bw_914 : (Jvm.Cond.selects "TollClock" ({ cls := "TollClock", name := "weekday", desc := "(I)I" } : Jvm.MethodName) ({ cls := "TollClock", name := "weekday", desc := "(I)I" } : Jvm.MethodName)) ∈ BIG := gdW4 194 (by decide +kernel) rfl
theorem bw_915 : (Jvm.Cond.code ({ cls := "TollClock", name := "weekday", desc := "(I)I" } : Jvm.MethodName) prog_1_method_13_code (2 : Nat) (Option.some Jvm.ClassFile.FieldType.int)) ∈ BIG := gdW4 195 (by decide +kernel) rfl
theorem bw_916 : (Jvm.Cond.methodLink "TollClock" (160 : Nat) ({ cls := "TollClock", name := "needDay", desc := "(I)V" } : Jvm.MethodName)) ∈ BIG := gdW4 196 (by decide +kernel) rfl
theorem bw_917 : (Jvm.Cond.static ({ cls := "TollClock", name := "needDay", desc := "(I)V" } : Jvm.MethodName)) ∈ BIG := gdW4 197 (by decide +kernel) rfl
theorem bw_918 : (Jvm.Cond.code ({ cls := "TollClock", name := "needDay", desc := "(I)V" } : Jvm.MethodName) prog_1_method_23_code (1 : Nat) (Option.none : Option Jvm.ClassFile.FieldType)) ∈ BIG := gdW4 198 (by decide +kernel) rfl
theorem bw_919 : (Jvm.Cond.methodLink "TollClock" (181 : Nat) ({ cls := "TollClock", name := "isDay", desc := "(I)Z" } : Jvm.MethodName)) ∈ BIG := gdW4 199 (by decide +kernel) rfl
theorem bw_924 : (Jvm.Cond.methodLink "TollClockLaw" (45 : Nat) ({ cls := "TollClock", name := "isCourtDay", desc := "(I)Z" } : Jvm.MethodName)) ∈ BIG := gdW4 204 (by decide +kernel) rfl
theorem bw_925 : (Jvm.Cond.instanceMethod ({ cls := "TollClock", name := "isCourtDay", desc := "(I)Z" } : Jvm.MethodName)) ∈ BIG := gdW4 205 (by decide +kernel) rfl
theorem bw_926 : (Jvm.Cond.selects "TollClock" ({ cls := "TollClock", name := "isCourtDay", desc := "(I)Z" } : Jvm.MethodName) ({ cls := "TollClock", name := "isCourtDay", desc := "(I)Z" } : Jvm.MethodName)) ∈ BIG := gdW4 206 (by decide +kernel) rfl
theorem bw_927 : (Jvm.Cond.code ({ cls := "TollClock", name := "isCourtDay", desc := "(I)Z" } : Jvm.MethodName) prog_1_method_14_code (2 : Nat) (Option.some Jvm.ClassFile.FieldType.boolean)) ∈ BIG := gdW4 207 (by decide +kernel) rfl
theorem bw_928 : (Jvm.Cond.methodLink "TollClock" (163 : Nat) ({ cls := "TollClock$Calendar", name := "isCourt", desc := "(I)Z" } : Jvm.MethodName)) ∈ BIG := gdW4 208 (by decide +kernel) rfl
theorem bw_932 : (Jvm.Cond.methodLink "TollClockLaw" (49 : Nat) ({ cls := "TollClock", name := "addHoliday", desc := "(I)I" } : Jvm.MethodName)) ∈ BIG := gdW4 212 (by decide +kernel) rfl
theorem bw_933 : (Jvm.Cond.instanceMethod ({ cls := "TollClock", name := "addHoliday", desc := "(I)I" } : Jvm.MethodName)) ∈ BIG := gdW4 213 (by decide +kernel) rfl
theorem bw_934 : (Jvm.Cond.selects "TollClock" ({ cls := "TollClock", name := "addHoliday", desc := "(I)I" } : Jvm.MethodName) ({ cls := "TollClock", name := "addHoliday", desc := "(I)I" } : Jvm.MethodName)) ∈ BIG := gdW4 214 (by decide +kernel) rfl
theorem bw_935 : (Jvm.Cond.code ({ cls := "TollClock", name := "addHoliday", desc := "(I)I" } : Jvm.MethodName) prog_1_method_15_code (2 : Nat) (Option.some Jvm.ClassFile.FieldType.int)) ∈ BIG := gdW4 215 (by decide +kernel) rfl
theorem bw_936 : (Jvm.Cond.methodLink "TollClock" (166 : Nat) ({ cls := "TollClock", name := "tryAddHoliday", desc := "(I)I" } : Jvm.MethodName)) ∈ BIG := gdW4 216 (by decide +kernel) rfl
theorem bw_938 : (Jvm.Cond.instanceMethod ({ cls := "TollClock", name := "tryAddHoliday", desc := "(I)I" } : Jvm.MethodName)) ∈ BIG := gdW4 218 (by decide +kernel) rfl
theorem bw_939 : (Jvm.Cond.code ({ cls := "TollClock", name := "tryAddHoliday", desc := "(I)I" } : Jvm.MethodName) prog_1_method_20_code (2 : Nat) (Option.some Jvm.ClassFile.FieldType.int)) ∈ BIG := gdW4 219 (by decide +kernel) rfl
theorem bw_940 : (Jvm.Cond.methodLink "TollClock" (184 : Nat) ({ cls := "TollClock$Calendar", name := "isHoliday", desc := "(I)Z" } : Jvm.MethodName)) ∈ BIG := gdW4 220 (by decide +kernel) rfl
theorem bw_941 : (Jvm.Cond.instanceMethod ({ cls := "TollClock$Calendar", name := "isHoliday", desc := "(I)Z" } : Jvm.MethodName)) ∈ BIG := gdW4 221 (by decide +kernel) rfl
theorem bw_942 : (Jvm.Cond.selects "TollClock$Calendar" ({ cls := "TollClock$Calendar", name := "isHoliday", desc := "(I)Z" } : Jvm.MethodName) ({ cls := "TollClock$Calendar", name := "isHoliday", desc := "(I)Z" } : Jvm.MethodName)) ∈ BIG := gdW4 222 (by decide +kernel) rfl
theorem bw_943 : (Jvm.Cond.code ({ cls := "TollClock$Calendar", name := "isHoliday", desc := "(I)Z" } : Jvm.MethodName) prog_2_method_3_code (2 : Nat) (Option.some Jvm.ClassFile.FieldType.boolean)) ∈ BIG := gdW4 223 (by decide +kernel) rfl
theorem bw_944 : (Jvm.Cond.methodLink "TollClock" (190 : Nat) ({ cls := "TollClock$Calendar", name := "insertHoliday", desc := "(I)V" } : Jvm.MethodName)) ∈ BIG := gdW4 224 (by decide +kernel) rfl
theorem bw_945 : (Jvm.Cond.instanceMethod ({ cls := "TollClock$Calendar", name := "insertHoliday", desc := "(I)V" } : Jvm.MethodName)) ∈ BIG := gdW4 225 (by decide +kernel) rfl
theorem bw_946 : (Jvm.Cond.selects "TollClock$Calendar" ({ cls := "TollClock$Calendar", name := "insertHoliday", desc := "(I)V" } : Jvm.MethodName) ({ cls := "TollClock$Calendar", name := "insertHoliday", desc := "(I)V" } : Jvm.MethodName)) ∈ BIG := gdW4 226 (by decide +kernel) rfl
theorem bw_947 : (Jvm.Cond.code ({ cls := "TollClock$Calendar", name := "insertHoliday", desc := "(I)V" } : Jvm.MethodName) prog_2_method_5_code (2 : Nat) (Option.none : Option Jvm.ClassFile.FieldType)) ∈ BIG := gdW4 227 (by decide +kernel) rfl
theorem bw_951 : (Jvm.Cond.methodLink "TollClockLaw" (52 : Nat) ({ cls := "TollClock", name := "removeHoliday", desc := "(I)I" } : Jvm.MethodName)) ∈ BIG := gdW4 231 (by decide +kernel) rfl
theorem bw_952 : (Jvm.Cond.instanceMethod ({ cls := "TollClock", name := "removeHoliday", desc := "(I)I" } : Jvm.MethodName)) ∈ BIG := gdW4 232 (by decide +kernel) rfl
theorem bw_953 : (Jvm.Cond.selects "TollClock" ({ cls := "TollClock", name := "removeHoliday", desc := "(I)I" } : Jvm.MethodName) ({ cls := "TollClock", name := "removeHoliday", desc := "(I)I" } : Jvm.MethodName)) ∈ BIG := gdW4 233 (by decide +kernel) rfl
theorem bw_954 : (Jvm.Cond.code ({ cls := "TollClock", name := "removeHoliday", desc := "(I)I" } : Jvm.MethodName) prog_1_method_16_code (2 : Nat) (Option.some Jvm.ClassFile.FieldType.int)) ∈ BIG := gdW4 234 (by decide +kernel) rfl
theorem bw_955 : (Jvm.Cond.methodLink "TollClock" (169 : Nat) ({ cls := "TollClock", name := "tryRemoveHoliday", desc := "(I)I" } : Jvm.MethodName)) ∈ BIG := gdW4 235 (by decide +kernel) rfl
theorem bw_957 : (Jvm.Cond.instanceMethod ({ cls := "TollClock", name := "tryRemoveHoliday", desc := "(I)I" } : Jvm.MethodName)) ∈ BIG := gdW4 237 (by decide +kernel) rfl
theorem bw_958 : (Jvm.Cond.code ({ cls := "TollClock", name := "tryRemoveHoliday", desc := "(I)I" } : Jvm.MethodName) prog_1_method_21_code (2 : Nat) (Option.some Jvm.ClassFile.FieldType.int)) ∈ BIG := gdW4 238 (by decide +kernel) rfl
theorem bw_959 : (Jvm.Cond.methodLink "TollClock" (193 : Nat) ({ cls := "TollClock$Calendar", name := "deleteHoliday", desc := "(I)V" } : Jvm.MethodName)) ∈ BIG := gdW4 239 (by decide +kernel) rfl
theorem bw_960 : (Jvm.Cond.instanceMethod ({ cls := "TollClock$Calendar", name := "deleteHoliday", desc := "(I)V" } : Jvm.MethodName)) ∈ BIG := gdW5 0 (by decide +kernel) rfl
theorem bw_961 : (Jvm.Cond.selects "TollClock$Calendar" ({ cls := "TollClock$Calendar", name := "deleteHoliday", desc := "(I)V" } : Jvm.MethodName) ({ cls := "TollClock$Calendar", name := "deleteHoliday", desc := "(I)V" } : Jvm.MethodName)) ∈ BIG := gdW5 1 (by decide +kernel) rfl
theorem bw_962 : (Jvm.Cond.code ({ cls := "TollClock$Calendar", name := "deleteHoliday", desc := "(I)V" } : Jvm.MethodName) prog_2_method_6_code (3 : Nat) (Option.none : Option Jvm.ClassFile.FieldType)) ∈ BIG := gdW5 2 (by decide +kernel) rfl
theorem bw_966 : (Jvm.Cond.methodLink "TollClockLaw" (55 : Nat) ({ cls := "TollClock", name := "courtDays", desc := "(II)I" } : Jvm.MethodName)) ∈ BIG := gdW5 6 (by decide +kernel) rfl
theorem bw_967 : (Jvm.Cond.instanceMethod ({ cls := "TollClock", name := "courtDays", desc := "(II)I" } : Jvm.MethodName)) ∈ BIG := gdW5 7 (by decide +kernel) rfl
theorem bw_968 : (Jvm.Cond.selects "TollClock" ({ cls := "TollClock", name := "courtDays", desc := "(II)I" } : Jvm.MethodName) ({ cls := "TollClock", name := "courtDays", desc := "(II)I" } : Jvm.MethodName)) ∈ BIG := gdW5 8 (by decide +kernel) rfl
theorem bw_969 : (Jvm.Cond.code ({ cls := "TollClock", name := "courtDays", desc := "(II)I" } : Jvm.MethodName) prog_1_method_17_code (3 : Nat) (Option.some Jvm.ClassFile.FieldType.int)) ∈ BIG := gdW5 9 (by decide +kernel) rfl
theorem bw_970 : (Jvm.Cond.methodLink "TollClock" (172 : Nat) ({ cls := "TollClock", name := "needRange", desc := "(II)V" } : Jvm.MethodName)) ∈ BIG := gdW5 10 (by decide +kernel) rfl
theorem bw_971 : (Jvm.Cond.static ({ cls := "TollClock", name := "needRange", desc := "(II)V" } : Jvm.MethodName)) ∈ BIG := gdW5 11 (by decide +kernel) rfl
theorem bw_972 : (Jvm.Cond.code ({ cls := "TollClock", name := "needRange", desc := "(II)V" } : Jvm.MethodName) prog_1_method_24_code (2 : Nat) (Option.none : Option Jvm.ClassFile.FieldType)) ∈ BIG := gdW5 12 (by decide +kernel) rfl
theorem bw_977 : (Jvm.Cond.methodLink "TollClockLaw" (58 : Nat) ({ cls := "TollClock", name := "courtDaysByMarking", desc := "(II)I" } : Jvm.MethodName)) ∈ BIG := gdW5 17 (by decide +kernel) rfl
theorem bw_978 : (Jvm.Cond.instanceMethod ({ cls := "TollClock", name := "courtDaysByMarking", desc := "(II)I" } : Jvm.MethodName)) ∈ BIG := gdW5 18 (by decide +kernel) rfl
theorem bw_979 : (Jvm.Cond.selects "TollClock" ({ cls := "TollClock", name := "courtDaysByMarking", desc := "(II)I" } : Jvm.MethodName) ({ cls := "TollClock", name := "courtDaysByMarking", desc := "(II)I" } : Jvm.MethodName)) ∈ BIG := gdW5 19 (by decide +kernel) rfl
theorem bw_980 : (Jvm.Cond.code ({ cls := "TollClock", name := "courtDaysByMarking", desc := "(II)I" } : Jvm.MethodName) prog_1_method_18_code (3 : Nat) (Option.some Jvm.ClassFile.FieldType.int)) ∈ BIG := gdW5 20 (by decide +kernel) rfl
theorem bw_984 : (Jvm.Cond.methodLink "TollClockLaw" (61 : Nat) ({ cls := "TollClock", name := "setRule", desc := "(IIZ)I" } : Jvm.MethodName)) ∈ BIG := gdW5 24 (by decide +kernel) rfl
theorem bw_985 : (Jvm.Cond.instanceMethod ({ cls := "TollClock", name := "setRule", desc := "(IIZ)I" } : Jvm.MethodName)) ∈ BIG := gdW5 25 (by decide +kernel) rfl
theorem bw_986 : (Jvm.Cond.selects "TollClock" ({ cls := "TollClock", name := "setRule", desc := "(IIZ)I" } : Jvm.MethodName) ({ cls := "TollClock", name := "setRule", desc := "(IIZ)I" } : Jvm.MethodName)) ∈ BIG := gdW5 26 (by decide +kernel) rfl
theorem bw_987 : (Jvm.Cond.code ({ cls := "TollClock", name := "setRule", desc := "(IIZ)I" } : Jvm.MethodName) prog_1_method_25_code (4 : Nat) (Option.some Jvm.ClassFile.FieldType.int)) ∈ BIG := gdW5 27 (by decide +kernel) rfl
theorem bw_988 : (Jvm.Cond.methodLink "TollClock" (203 : Nat) ({ cls := "TollClock", name := "trySetRule", desc := "(IIZ)I" } : Jvm.MethodName)) ∈ BIG := gdW5 28 (by decide +kernel) rfl
theorem bw_990 : (Jvm.Cond.instanceMethod ({ cls := "TollClock", name := "trySetRule", desc := "(IIZ)I" } : Jvm.MethodName)) ∈ BIG := gdW5 30 (by decide +kernel) rfl
theorem bw_991 : (Jvm.Cond.code ({ cls := "TollClock", name := "trySetRule", desc := "(IIZ)I" } : Jvm.MethodName) prog_1_method_32_code (5 : Nat) (Option.some Jvm.ClassFile.FieldType.int)) ∈ BIG := gdW5 31 (by decide +kernel) rfl
theorem bw_992 : (Jvm.Cond.methodLink "TollClock" (241 : Nat) ({ cls := "TollClock", name := "isRule", desc := "(I)Z" } : Jvm.MethodName)) ∈ BIG := gdW5 32 (by decide +kernel) rfl
theorem bw_993 : (Jvm.Cond.static ({ cls := "TollClock", name := "isRule", desc := "(I)Z" } : Jvm.MethodName)) ∈ BIG := gdW5 33 (by decide +kernel) rfl
theorem bw_994 : (Jvm.Cond.code ({ cls := "TollClock", name := "isRule", desc := "(I)Z" } : Jvm.MethodName) prog_1_method_34_code (1 : Nat) (Option.some Jvm.ClassFile.FieldType.boolean)) ∈ BIG := gdW5 34 (by decide +kernel) rfl
theorem bw_998 : (Jvm.Cond.methodLink "TollClockLaw" (65 : Nat) ({ cls := "TollClock", name := "ruleLength", desc := "(I)I" } : Jvm.MethodName)) ∈ BIG := gdW5 38 (by decide +kernel) rfl
theorem bw_999 : (Jvm.Cond.instanceMethod ({ cls := "TollClock", name := "ruleLength", desc := "(I)I" } : Jvm.MethodName)) ∈ BIG := gdW5 39 (by decide +kernel) rfl
theorem bw_1000 : (Jvm.Cond.selects "TollClock" ({ cls := "TollClock", name := "ruleLength", desc := "(I)I" } : Jvm.MethodName) ({ cls := "TollClock", name := "ruleLength", desc := "(I)I" } : Jvm.MethodName)) ∈ BIG := gdW5 40 (by decide +kernel) rfl
theorem bw_1001 : (Jvm.Cond.code ({ cls := "TollClock", name := "ruleLength", desc := "(I)I" } : Jvm.MethodName) prog_1_method_26_code (2 : Nat) (Option.some Jvm.ClassFile.FieldType.int)) ∈ BIG := gdW5 41 (by decide +kernel) rfl
theorem bw_1002 : (Jvm.Cond.methodLink "TollClock" (207 : Nat) ({ cls := "TollClock", name := "needRule", desc := "(I)V" } : Jvm.MethodName)) ∈ BIG := gdW5 42 (by decide +kernel) rfl
theorem bw_1003 : (Jvm.Cond.static ({ cls := "TollClock", name := "needRule", desc := "(I)V" } : Jvm.MethodName)) ∈ BIG := gdW5 43 (by decide +kernel) rfl
theorem bw_1004 : (Jvm.Cond.code ({ cls := "TollClock", name := "needRule", desc := "(I)V" } : Jvm.MethodName) prog_1_method_35_code (1 : Nat) (Option.none : Option Jvm.ClassFile.FieldType)) ∈ BIG := gdW5 44 (by decide +kernel) rfl
theorem bw_1009 : (Jvm.Cond.methodLink "TollClockLaw" (68 : Nat) ({ cls := "TollClock", name := "countsCourtDays", desc := "(I)Z" } : Jvm.MethodName)) ∈ BIG := gdW5 49 (by decide +kernel) rfl
theorem bw_1010 : (Jvm.Cond.instanceMethod ({ cls := "TollClock", name := "countsCourtDays", desc := "(I)Z" } : Jvm.MethodName)) ∈ BIG := gdW5 50 (by decide +kernel) rfl
theorem bw_1011 : (Jvm.Cond.selects "TollClock" ({ cls := "TollClock", name := "countsCourtDays", desc := "(I)Z" } : Jvm.MethodName) ({ cls := "TollClock", name := "countsCourtDays", desc := "(I)Z" } : Jvm.MethodName)) ∈ BIG := gdW5 51 (by decide +kernel) rfl
theorem bw_1012 : (Jvm.Cond.code ({ cls := "TollClock", name := "countsCourtDays", desc := "(I)Z" } : Jvm.MethodName) prog_1_method_27_code (2 : Nat) (Option.some Jvm.ClassFile.FieldType.boolean)) ∈ BIG := gdW5 52 (by decide +kernel) rfl
theorem bw_1016 : (Jvm.Cond.methodLink "TollClockLaw" (71 : Nat) ({ cls := "TollClock", name := "setServiceDays", desc := "(CI)I" } : Jvm.MethodName)) ∈ BIG := gdW5 56 (by decide +kernel) rfl
theorem bw_1017 : (Jvm.Cond.instanceMethod ({ cls := "TollClock", name := "setServiceDays", desc := "(CI)I" } : Jvm.MethodName)) ∈ BIG := gdW5 57 (by decide +kernel) rfl
theorem bw_1018 : (Jvm.Cond.selects "TollClock" ({ cls := "TollClock", name := "setServiceDays", desc := "(CI)I" } : Jvm.MethodName) ({ cls := "TollClock", name := "setServiceDays", desc := "(CI)I" } : Jvm.MethodName)) ∈ BIG := gdW5 58 (by decide +kernel) rfl
theorem bw_1019 : (Jvm.Cond.code ({ cls := "TollClock", name := "setServiceDays", desc := "(CI)I" } : Jvm.MethodName) prog_1_method_28_code (3 : Nat) (Option.some Jvm.ClassFile.FieldType.int)) ∈ BIG := gdW5 59 (by decide +kernel) rfl
theorem bw_1020 : (Jvm.Cond.methodLink "TollClock" (221 : Nat) ({ cls := "TollClock", name := "trySetServiceDays", desc := "(CI)I" } : Jvm.MethodName)) ∈ BIG := gdW5 60 (by decide +kernel) rfl
theorem bw_1022 : (Jvm.Cond.instanceMethod ({ cls := "TollClock", name := "trySetServiceDays", desc := "(CI)I" } : Jvm.MethodName)) ∈ BIG := gdW5 62 (by decide +kernel) rfl
theorem bw_1023 : (Jvm.Cond.code ({ cls := "TollClock", name := "trySetServiceDays", desc := "(CI)I" } : Jvm.MethodName) prog_1_method_33_code (5 : Nat) (Option.some Jvm.ClassFile.FieldType.int)) ∈ BIG := gdW5 63 (by decide +kernel) rfl
theorem bw_1024 : (Jvm.Cond.methodLink "TollClock" (225 : Nat) ({ cls := "TollClock$Rules", name := "placeOfWay", desc := "(C)I" } : Jvm.MethodName)) ∈ BIG := gdW5 64 (by decide +kernel) rfl
theorem bw_1025 : (Jvm.Cond.static ({ cls := "TollClock$Rules", name := "placeOfWay", desc := "(C)I" } : Jvm.MethodName)) ∈ BIG := gdW5 65 (by decide +kernel) rfl
theorem bw_1026 : (Jvm.Cond.code ({ cls := "TollClock$Rules", name := "placeOfWay", desc := "(C)I" } : Jvm.MethodName) prog_9_method_3_code (1 : Nat) (Option.some Jvm.ClassFile.FieldType.int)) ∈ BIG := gdW5 66 (by decide +kernel) rfl
theorem bw_1030 : (Jvm.Cond.methodLink "TollClockLaw" (75 : Nat) ({ cls := "TollClock", name := "serviceDays", desc := "(C)I" } : Jvm.MethodName)) ∈ BIG := gdW5 70 (by decide +kernel) rfl
theorem bw_1031 : (Jvm.Cond.instanceMethod ({ cls := "TollClock", name := "serviceDays", desc := "(C)I" } : Jvm.MethodName)) ∈ BIG := gdW5 71 (by decide +kernel) rfl
theorem bw_1032 : (Jvm.Cond.selects "TollClock" ({ cls := "TollClock", name := "serviceDays", desc := "(C)I" } : Jvm.MethodName) ({ cls := "TollClock", name := "serviceDays", desc := "(C)I" } : Jvm.MethodName)) ∈ BIG := gdW5 72 (by decide +kernel) rfl
theorem bw_1033 : (Jvm.Cond.code ({ cls := "TollClock", name := "serviceDays", desc := "(C)I" } : Jvm.MethodName) prog_1_method_29_code (3 : Nat) (Option.some Jvm.ClassFile.FieldType.int)) ∈ BIG := gdW5 73 (by decide +kernel) rfl
theorem bw_1038 : (Jvm.Cond.methodLink "TollClockLaw" (78 : Nat) ({ cls := "TollClock", name := "lastDayBefore", desc := "(II)I" } : Jvm.MethodName)) ∈ BIG := gdW5 78 (by decide +kernel) rfl
theorem bw_1039 : (Jvm.Cond.instanceMethod ({ cls := "TollClock", name := "lastDayBefore", desc := "(II)I" } : Jvm.MethodName)) ∈ BIG := gdW5 79 (by decide +kernel) rfl
theorem bw_1040 : (Jvm.Cond.selects "TollClock" ({ cls := "TollClock", name := "lastDayBefore", desc := "(II)I" } : Jvm.MethodName) ({ cls := "TollClock", name := "lastDayBefore", desc := "(II)I" } : Jvm.MethodName)) ∈ BIG := gdW5 80 (by decide +kernel) rfl
theorem bw_1041 : (Jvm.Cond.code ({ cls := "TollClock", name := "lastDayBefore", desc := "(II)I" } : Jvm.MethodName) prog_1_method_30_code (3 : Nat) (Option.some Jvm.ClassFile.FieldType.int)) ∈ BIG := gdW5 81 (by decide +kernel) rfl
theorem bw_1042 : (Jvm.Cond.methodLink "TollClock" (234 : Nat) ({ cls := "TollClock$Weeks", name := "countBack", desc := "(IIZ)I" } : Jvm.MethodName)) ∈ BIG := gdW5 82 (by decide +kernel) rfl
theorem bw_1043 : (Jvm.Cond.instanceMethod ({ cls := "TollClock$Weeks", name := "countBack", desc := "(IIZ)I" } : Jvm.MethodName)) ∈ BIG := gdW5 83 (by decide +kernel) rfl
theorem bw_1044 : (Jvm.Cond.selects "TollClock$Weeks" ({ cls := "TollClock$Weeks", name := "countBack", desc := "(IIZ)I" } : Jvm.MethodName) ({ cls := "TollClock$Weeks", name := "countBack", desc := "(IIZ)I" } : Jvm.MethodName)) ∈ BIG := gdW5 84 (by decide +kernel) rfl
theorem bw_1045 : (Jvm.Cond.code ({ cls := "TollClock$Weeks", name := "countBack", desc := "(IIZ)I" } : Jvm.MethodName) prog_12_method_15_code (5 : Nat) (Option.some Jvm.ClassFile.FieldType.int)) ∈ BIG := gdW5 85 (by decide +kernel) rfl
theorem bw_1046 : (Jvm.Cond.methodLink "TollClock$Weeks" (118 : Nat) ({ cls := "TollClock$Weeks", name := "dayOfCountBack", desc := "(II)I" } : Jvm.MethodName)) ∈ BIG := gdW5 86 (by decide +kernel) rfl
theorem bw_1048 : (Jvm.Cond.instanceMethod ({ cls := "TollClock$Weeks", name := "dayOfCountBack", desc := "(II)I" } : Jvm.MethodName)) ∈ BIG := gdW5 88 (by decide +kernel) rfl
theorem bw_1049 : (Jvm.Cond.code ({ cls := "TollClock$Weeks", name := "dayOfCountBack", desc := "(II)I" } : Jvm.MethodName) prog_12_method_16_code (6 : Nat) (Option.some Jvm.ClassFile.FieldType.int)) ∈ BIG := gdW5 89 (by decide +kernel) rfl
theorem bw_1050 : (Jvm.Cond.methodLink "TollClock" (237 : Nat) ({ cls := "TollClock", name := "needNotBeforeDayZero", desc := "(I)I" } : Jvm.MethodName)) ∈ BIG := gdW5 90 (by decide +kernel) rfl
theorem bw_1051 : (Jvm.Cond.static ({ cls := "TollClock", name := "needNotBeforeDayZero", desc := "(I)I" } : Jvm.MethodName)) ∈ BIG := gdW5 91 (by decide +kernel) rfl
theorem bw_1052 : (Jvm.Cond.code ({ cls := "TollClock", name := "needNotBeforeDayZero", desc := "(I)I" } : Jvm.MethodName) prog_1_method_36_code (1 : Nat) (Option.some Jvm.ClassFile.FieldType.int)) ∈ BIG := gdW5 92 (by decide +kernel) rfl
theorem bw_1057 : (Jvm.Cond.methodLink "TollClockLaw" (81 : Nat) ({ cls := "TollClock", name := "lastDayBeforeByMarking", desc := "(II)I" } : Jvm.MethodName)) ∈ BIG := gdW5 97 (by decide +kernel) rfl
theorem bw_1058 : (Jvm.Cond.instanceMethod ({ cls := "TollClock", name := "lastDayBeforeByMarking", desc := "(II)I" } : Jvm.MethodName)) ∈ BIG := gdW5 98 (by decide +kernel) rfl
theorem bw_1059 : (Jvm.Cond.selects "TollClock" ({ cls := "TollClock", name := "lastDayBeforeByMarking", desc := "(II)I" } : Jvm.MethodName) ({ cls := "TollClock", name := "lastDayBeforeByMarking", desc := "(II)I" } : Jvm.MethodName)) ∈ BIG := gdW5 99 (by decide +kernel) rfl
theorem bw_1060 : (Jvm.Cond.code ({ cls := "TollClock", name := "lastDayBeforeByMarking", desc := "(II)I" } : Jvm.MethodName) prog_1_method_31_code (3 : Nat) (Option.some Jvm.ClassFile.FieldType.int)) ∈ BIG := gdW5 100 (by decide +kernel) rfl
theorem bw_1061 : (Jvm.Cond.methodLink "TollClock" (240 : Nat) ({ cls := "TollClock$Marks", name := "countBack", desc := "(IIZ)I" } : Jvm.MethodName)) ∈ BIG := gdW5 101 (by decide +kernel) rfl
theorem bw_1062 : (Jvm.Cond.instanceMethod ({ cls := "TollClock$Marks", name := "countBack", desc := "(IIZ)I" } : Jvm.MethodName)) ∈ BIG := gdW5 102 (by decide +kernel) rfl
theorem bw_1063 : (Jvm.Cond.selects "TollClock$Marks" ({ cls := "TollClock$Marks", name := "countBack", desc := "(IIZ)I" } : Jvm.MethodName) ({ cls := "TollClock$Marks", name := "countBack", desc := "(IIZ)I" } : Jvm.MethodName)) ∈ BIG := gdW5 103 (by decide +kernel) rfl
theorem bw_1064 : (Jvm.Cond.code ({ cls := "TollClock$Marks", name := "countBack", desc := "(IIZ)I" } : Jvm.MethodName) prog_6_method_13_code (7 : Nat) (Option.some Jvm.ClassFile.FieldType.int)) ∈ BIG := gdW5 104 (by decide +kernel) rfl
theorem bw_1068 : (Jvm.Cond.methodLink "TollClockLaw" (84 : Nat) ({ cls := "TollClock", name := "serve", desc := "(IIC)I" } : Jvm.MethodName)) ∈ BIG := gdW5 108 (by decide +kernel) rfl
theorem bw_1069 : (Jvm.Cond.instanceMethod ({ cls := "TollClock", name := "serve", desc := "(IIC)I" } : Jvm.MethodName)) ∈ BIG := gdW5 109 (by decide +kernel) rfl
theorem bw_1070 : (Jvm.Cond.selects "TollClock" ({ cls := "TollClock", name := "serve", desc := "(IIC)I" } : Jvm.MethodName) ({ cls := "TollClock", name := "serve", desc := "(IIC)I" } : Jvm.MethodName)) ∈ BIG := gdW5 110 (by decide +kernel) rfl
theorem bw_1071 : (Jvm.Cond.code ({ cls := "TollClock", name := "serve", desc := "(IIC)I" } : Jvm.MethodName) prog_1_method_37_code (4 : Nat) (Option.some Jvm.ClassFile.FieldType.int)) ∈ BIG := gdW5 111 (by decide +kernel) rfl
theorem bw_1072 : (Jvm.Cond.methodLink "TollClock" (248 : Nat) ({ cls := "TollClock", name := "tryServe", desc := "(IIC)I" } : Jvm.MethodName)) ∈ BIG := gdW5 112 (by decide +kernel) rfl
theorem bw_1074 : (Jvm.Cond.instanceMethod ({ cls := "TollClock", name := "tryServe", desc := "(IIC)I" } : Jvm.MethodName)) ∈ BIG := gdW5 114 (by decide +kernel) rfl
theorem bw_1075 : (Jvm.Cond.code ({ cls := "TollClock", name := "tryServe", desc := "(IIC)I" } : Jvm.MethodName) prog_1_method_53_code (6 : Nat) (Option.some Jvm.ClassFile.FieldType.int)) ∈ BIG := gdW5 115 (by decide +kernel) rfl
theorem bw_1076 : (Jvm.Cond.methodLink "TollClock" (316 : Nat) ({ cls := "TollClock$Deadlines", name := "add", desc := "(IIILTollClock$Rules;)I" } : Jvm.MethodName)) ∈ BIG := gdW5 116 (by decide +kernel) rfl
theorem bw_1077 : (Jvm.Cond.instanceMethod ({ cls := "TollClock$Deadlines", name := "add", desc := "(IIILTollClock$Rules;)I" } : Jvm.MethodName)) ∈ BIG := gdW5 117 (by decide +kernel) rfl
theorem bw_1078 : (Jvm.Cond.selects "TollClock$Deadlines" ({ cls := "TollClock$Deadlines", name := "add", desc := "(IIILTollClock$Rules;)I" } : Jvm.MethodName) ({ cls := "TollClock$Deadlines", name := "add", desc := "(IIILTollClock$Rules;)I" } : Jvm.MethodName)) ∈ BIG := gdW5 118 (by decide +kernel) rfl
theorem bw_1079 : (Jvm.Cond.code ({ cls := "TollClock$Deadlines", name := "add", desc := "(IIILTollClock$Rules;)I" } : Jvm.MethodName) prog_4_method_6_code (6 : Nat) (Option.some Jvm.ClassFile.FieldType.int)) ∈ BIG := gdW5 119 (by decide +kernel) rfl
theorem bw_1080 : (Jvm.Cond.methodLink "TollClock$Deadlines" (67 : Nat) ({ cls := "TollClock$Deadlines", name := "addPart", desc := "(II)V" } : Jvm.MethodName)) ∈ BIG := gdW5 120 (by decide +kernel) rfl
theorem bw_1081 : (Jvm.Cond.instanceMethod ({ cls := "TollClock$Deadlines", name := "addPart", desc := "(II)V" } : Jvm.MethodName)) ∈ BIG := gdW5 121 (by decide +kernel) rfl
theorem bw_1082 : (Jvm.Cond.selects "TollClock$Deadlines" ({ cls := "TollClock$Deadlines", name := "addPart", desc := "(II)V" } : Jvm.MethodName) ({ cls := "TollClock$Deadlines", name := "addPart", desc := "(II)V" } : Jvm.MethodName)) ∈ BIG := gdW5 122 (by decide +kernel) rfl
theorem bw_1083 : (Jvm.Cond.code ({ cls := "TollClock$Deadlines", name := "addPart", desc := "(II)V" } : Jvm.MethodName) prog_4_method_7_code (3 : Nat) (Option.none : Option Jvm.ClassFile.FieldType)) ∈ BIG := gdW5 123 (by decide +kernel) rfl
theorem bw_1084 : (Jvm.Cond.methodLink "TollClock" (319 : Nat) ({ cls := "TollClock$Deadlines", name := "addPart", desc := "(II)V" } : Jvm.MethodName)) ∈ BIG := gdW5 124 (by decide +kernel) rfl
theorem bw_1088 : (Jvm.Cond.methodLink "TollClockLaw" (88 : Nat) ({ cls := "TollClock", name := "due", desc := "(I)I" } : Jvm.MethodName)) ∈ BIG := gdW5 128 (by decide +kernel) rfl
theorem bw_1089 : (Jvm.Cond.instanceMethod ({ cls := "TollClock", name := "due", desc := "(I)I" } : Jvm.MethodName)) ∈ BIG := gdW5 129 (by decide +kernel) rfl
theorem bw_1090 : (Jvm.Cond.selects "TollClock" ({ cls := "TollClock", name := "due", desc := "(I)I" } : Jvm.MethodName) ({ cls := "TollClock", name := "due", desc := "(I)I" } : Jvm.MethodName)) ∈ BIG := gdW5 130 (by decide +kernel) rfl
theorem bw_1091 : (Jvm.Cond.code ({ cls := "TollClock", name := "due", desc := "(I)I" } : Jvm.MethodName) prog_1_method_39_code (2 : Nat) (Option.some Jvm.ClassFile.FieldType.int)) ∈ BIG := gdW5 131 (by decide +kernel) rfl
theorem bw_1092 : (Jvm.Cond.methodLink "TollClock" (259 : Nat) ({ cls := "TollClock", name := "needDeadline", desc := "(I)V" } : Jvm.MethodName)) ∈ BIG := gdW5 132 (by decide +kernel) rfl
theorem bw_1094 : (Jvm.Cond.instanceMethod ({ cls := "TollClock", name := "needDeadline", desc := "(I)V" } : Jvm.MethodName)) ∈ BIG := gdW5 134 (by decide +kernel) rfl
theorem bw_1095 : (Jvm.Cond.code ({ cls := "TollClock", name := "needDeadline", desc := "(I)V" } : Jvm.MethodName) prog_1_method_58_code (2 : Nat) (Option.none : Option Jvm.ClassFile.FieldType)) ∈ BIG := gdW5 135 (by decide +kernel) rfl
theorem bw_1096 : (Jvm.Cond.methodLink "TollClock" (322 : Nat) ({ cls := "TollClock$Deadlines", name := "has", desc := "(I)Z" } : Jvm.MethodName)) ∈ BIG := gdW5 136 (by decide +kernel) rfl
theorem bw_1097 : (Jvm.Cond.instanceMethod ({ cls := "TollClock$Deadlines", name := "has", desc := "(I)Z" } : Jvm.MethodName)) ∈ BIG := gdW5 137 (by decide +kernel) rfl
theorem bw_1098 : (Jvm.Cond.selects "TollClock$Deadlines" ({ cls := "TollClock$Deadlines", name := "has", desc := "(I)Z" } : Jvm.MethodName) ({ cls := "TollClock$Deadlines", name := "has", desc := "(I)Z" } : Jvm.MethodName)) ∈ BIG := gdW5 138 (by decide +kernel) rfl
theorem bw_1099 : (Jvm.Cond.code ({ cls := "TollClock$Deadlines", name := "has", desc := "(I)Z" } : Jvm.MethodName) prog_4_method_3_code (2 : Nat) (Option.some Jvm.ClassFile.FieldType.boolean)) ∈ BIG := gdW5 139 (by decide +kernel) rfl
theorem bw_1101 : (Jvm.Cond.methodLink "TollClock" (266 : Nat) ({ cls := "TollClock", name := "needSomeDay", desc := "(I)I" } : Jvm.MethodName)) ∈ BIG := gdW5 141 (by decide +kernel) rfl
theorem bw_1102 : (Jvm.Cond.static ({ cls := "TollClock", name := "needSomeDay", desc := "(I)I" } : Jvm.MethodName)) ∈ BIG := gdW5 142 (by decide +kernel) rfl
theorem bw_1103 : (Jvm.Cond.code ({ cls := "TollClock", name := "needSomeDay", desc := "(I)I" } : Jvm.MethodName) prog_1_method_59_code (1 : Nat) (Option.some Jvm.ClassFile.FieldType.int)) ∈ BIG := gdW5 143 (by decide +kernel) rfl
theorem bw_1108 : (Jvm.Cond.methodLink "TollClockLaw" (91 : Nat) ({ cls := "TollClock", name := "dueByMarking", desc := "(I)I" } : Jvm.MethodName)) ∈ BIG := gdW5 148 (by decide +kernel) rfl
theorem bw_1109 : (Jvm.Cond.instanceMethod ({ cls := "TollClock", name := "dueByMarking", desc := "(I)I" } : Jvm.MethodName)) ∈ BIG := gdW5 149 (by decide +kernel) rfl
theorem bw_1110 : (Jvm.Cond.selects "TollClock" ({ cls := "TollClock", name := "dueByMarking", desc := "(I)I" } : Jvm.MethodName) ({ cls := "TollClock", name := "dueByMarking", desc := "(I)I" } : Jvm.MethodName)) ∈ BIG := gdW5 150 (by decide +kernel) rfl
theorem bw_1111 : (Jvm.Cond.code ({ cls := "TollClock", name := "dueByMarking", desc := "(I)I" } : Jvm.MethodName) prog_1_method_40_code (2 : Nat) (Option.some Jvm.ClassFile.FieldType.int)) ∈ BIG := gdW5 151 (by decide +kernel) rfl
theorem bw_1115 : (Jvm.Cond.methodLink "TollClockLaw" (94 : Nat) ({ cls := "TollClock", name := "daysLeft", desc := "(I)I" } : Jvm.MethodName)) ∈ BIG := gdW5 155 (by decide +kernel) rfl
theorem bw_1116 : (Jvm.Cond.instanceMethod ({ cls := "TollClock", name := "daysLeft", desc := "(I)I" } : Jvm.MethodName)) ∈ BIG := gdW5 156 (by decide +kernel) rfl
theorem bw_1117 : (Jvm.Cond.selects "TollClock" ({ cls := "TollClock", name := "daysLeft", desc := "(I)I" } : Jvm.MethodName) ({ cls := "TollClock", name := "daysLeft", desc := "(I)I" } : Jvm.MethodName)) ∈ BIG := gdW5 157 (by decide +kernel) rfl
theorem bw_1118 : (Jvm.Cond.code ({ cls := "TollClock", name := "daysLeft", desc := "(I)I" } : Jvm.MethodName) prog_1_method_41_code (2 : Nat) (Option.some Jvm.ClassFile.FieldType.int)) ∈ BIG := gdW5 158 (by decide +kernel) rfl
theorem bw_1119 : (Jvm.Cond.methodLink "TollClock" (270 : Nat) ({ cls := "TollClock$Deadlines", name := "sumOfParts", desc := "(I)I" } : Jvm.MethodName)) ∈ BIG := gdW5 159 (by decide +kernel) rfl
theorem bw_1120 : (Jvm.Cond.instanceMethod ({ cls := "TollClock$Deadlines", name := "sumOfParts", desc := "(I)I" } : Jvm.MethodName)) ∈ BIG := gdW5 160 (by decide +kernel) rfl
theorem bw_1121 : (Jvm.Cond.selects "TollClock$Deadlines" ({ cls := "TollClock$Deadlines", name := "sumOfParts", desc := "(I)I" } : Jvm.MethodName) ({ cls := "TollClock$Deadlines", name := "sumOfParts", desc := "(I)I" } : Jvm.MethodName)) ∈ BIG := gdW5 161 (by decide +kernel) rfl
theorem bw_1122 : (Jvm.Cond.code ({ cls := "TollClock$Deadlines", name := "sumOfParts", desc := "(I)I" } : Jvm.MethodName) prog_4_method_11_code (4 : Nat) (Option.some Jvm.ClassFile.FieldType.int)) ∈ BIG := gdW5 162 (by decide +kernel) rfl
theorem bw_1123 : (Jvm.Cond.methodLink "TollClock$Deadlines" (71 : Nat) ({ cls := "TollClock$Deadlines", name := "lengthOfPart", desc := "(II)I" } : Jvm.MethodName)) ∈ BIG := gdW5 163 (by decide +kernel) rfl
theorem bw_1127 : (Jvm.Cond.methodLink "TollClockLaw" (97 : Nat) ({ cls := "TollClock", name := "daysLeftByMarking", desc := "(I)I" } : Jvm.MethodName)) ∈ BIG := gdW5 167 (by decide +kernel) rfl
theorem bw_1128 : (Jvm.Cond.instanceMethod ({ cls := "TollClock", name := "daysLeftByMarking", desc := "(I)I" } : Jvm.MethodName)) ∈ BIG := gdW5 168 (by decide +kernel) rfl
theorem bw_1129 : (Jvm.Cond.selects "TollClock" ({ cls := "TollClock", name := "daysLeftByMarking", desc := "(I)I" } : Jvm.MethodName) ({ cls := "TollClock", name := "daysLeftByMarking", desc := "(I)I" } : Jvm.MethodName)) ∈ BIG := gdW5 169 (by decide +kernel) rfl
theorem bw_1130 : (Jvm.Cond.code ({ cls := "TollClock", name := "daysLeftByMarking", desc := "(I)I" } : Jvm.MethodName) prog_1_method_42_code (2 : Nat) (Option.some Jvm.ClassFile.FieldType.int)) ∈ BIG := gdW5 170 (by decide +kernel) rfl
theorem bw_1134 : (Jvm.Cond.classLink "TollClockLaw" (103 : Nat) "java/lang/UnsupportedOperationException") ∈ BIG := gdW5 174 (by decide +kernel) rfl
theorem bw_1135 : (Jvm.Cond.methodLink "TollClockLaw" (100 : Nat) ({ cls := "TollClock", name := "extendByConsent", desc := "(II)I" } : Jvm.MethodName)) ∈ BIG := gdW5 175 (by decide +kernel) rfl
theorem bw_1136 : (Jvm.Cond.instanceMethod ({ cls := "TollClock", name := "extendByConsent", desc := "(II)I" } : Jvm.MethodName)) ∈ BIG := gdW5 176 (by decide +kernel) rfl
theorem bw_1137 : (Jvm.Cond.selects "TollClock" ({ cls := "TollClock", name := "extendByConsent", desc := "(II)I" } : Jvm.MethodName) ({ cls := "TollClock", name := "extendByConsent", desc := "(II)I" } : Jvm.MethodName)) ∈ BIG := gdW5 177 (by decide +kernel) rfl
theorem bw_1138 : (Jvm.Cond.code ({ cls := "TollClock", name := "extendByConsent", desc := "(II)I" } : Jvm.MethodName) prog_1_method_43_code (3 : Nat) (Option.some Jvm.ClassFile.FieldType.int)) ∈ BIG := gdW5 178 (by decide +kernel) rfl
theorem bw_1139 : (Jvm.Cond.methodLink "TollClock" (278 : Nat) ({ cls := "TollClock", name := "tryExtendByConsent", desc := "(II)I" } : Jvm.MethodName)) ∈ BIG := gdW5 179 (by decide +kernel) rfl
theorem bw_1141 : (Jvm.Cond.instanceMethod ({ cls := "TollClock", name := "tryExtendByConsent", desc := "(II)I" } : Jvm.MethodName)) ∈ BIG := gdW5 181 (by decide +kernel) rfl
theorem bw_1142 : (Jvm.Cond.code ({ cls := "TollClock", name := "tryExtendByConsent", desc := "(II)I" } : Jvm.MethodName) prog_1_method_54_code (3 : Nat) (Option.some Jvm.ClassFile.FieldType.int)) ∈ BIG := gdW5 182 (by decide +kernel) rfl
theorem bw_1143 : (Jvm.Cond.methodLink "TollClock" (329 : Nat) ({ cls := "TollClock$Deadlines", name := "grant", desc := "(II)I" } : Jvm.MethodName)) ∈ BIG := gdW5 183 (by decide +kernel) rfl
theorem bw_1144 : (Jvm.Cond.instanceMethod ({ cls := "TollClock$Deadlines", name := "grant", desc := "(II)I" } : Jvm.MethodName)) ∈ BIG := gdW5 184 (by decide +kernel) rfl
theorem bw_1145 : (Jvm.Cond.selects "TollClock$Deadlines" ({ cls := "TollClock$Deadlines", name := "grant", desc := "(II)I" } : Jvm.MethodName) ({ cls := "TollClock$Deadlines", name := "grant", desc := "(II)I" } : Jvm.MethodName)) ∈ BIG := gdW5 185 (by decide +kernel) rfl
theorem bw_1146 : (Jvm.Cond.code ({ cls := "TollClock$Deadlines", name := "grant", desc := "(II)I" } : Jvm.MethodName) prog_4_method_8_code (3 : Nat) (Option.some Jvm.ClassFile.FieldType.int)) ∈ BIG := gdW5 186 (by decide +kernel) rfl
theorem bw_1150 : (Jvm.Cond.methodLink "TollClockLaw" (105 : Nat) ({ cls := "TollClock", name := "extendByOrder", desc := "(II)I" } : Jvm.MethodName)) ∈ BIG := gdW5 190 (by decide +kernel) rfl
theorem bw_1151 : (Jvm.Cond.instanceMethod ({ cls := "TollClock", name := "extendByOrder", desc := "(II)I" } : Jvm.MethodName)) ∈ BIG := gdW5 191 (by decide +kernel) rfl
theorem bw_1152 : (Jvm.Cond.selects "TollClock" ({ cls := "TollClock", name := "extendByOrder", desc := "(II)I" } : Jvm.MethodName) ({ cls := "TollClock", name := "extendByOrder", desc := "(II)I" } : Jvm.MethodName)) ∈ BIG := gdW5 192 (by decide +kernel) rfl
theorem bw_1153 : (Jvm.Cond.code ({ cls := "TollClock", name := "extendByOrder", desc := "(II)I" } : Jvm.MethodName) prog_1_method_44_code (3 : Nat) (Option.some Jvm.ClassFile.FieldType.int)) ∈ BIG := gdW5 193 (by decide +kernel) rfl
theorem bw_1154 : (Jvm.Cond.methodLink "TollClock" (281 : Nat) ({ cls := "TollClock", name := "tryExtendByOrder", desc := "(II)I" } : Jvm.MethodName)) ∈ BIG := gdW5 194 (by decide +kernel) rfl
theorem bw_1156 : (Jvm.Cond.instanceMethod ({ cls := "TollClock", name := "tryExtendByOrder", desc := "(II)I" } : Jvm.MethodName)) ∈ BIG := gdW5 196 (by decide +kernel) rfl
theorem bw_1157 : (Jvm.Cond.code ({ cls := "TollClock", name := "tryExtendByOrder", desc := "(II)I" } : Jvm.MethodName) prog_1_method_55_code (3 : Nat) (Option.some Jvm.ClassFile.FieldType.int)) ∈ BIG := gdW5 197 (by decide +kernel) rfl
theorem bw_1161 : (Jvm.Cond.methodLink "TollClockLaw" (108 : Nat) ({ cls := "TollClock", name := "extensionDays", desc := "(I)I" } : Jvm.MethodName)) ∈ BIG := gdW5 201 (by decide +kernel) rfl
theorem bw_1162 : (Jvm.Cond.instanceMethod ({ cls := "TollClock", name := "extensionDays", desc := "(I)I" } : Jvm.MethodName)) ∈ BIG := gdW5 202 (by decide +kernel) rfl
theorem bw_1163 : (Jvm.Cond.selects "TollClock" ({ cls := "TollClock", name := "extensionDays", desc := "(I)I" } : Jvm.MethodName) ({ cls := "TollClock", name := "extensionDays", desc := "(I)I" } : Jvm.MethodName)) ∈ BIG := gdW5 203 (by decide +kernel) rfl
theorem bw_1164 : (Jvm.Cond.code ({ cls := "TollClock", name := "extensionDays", desc := "(I)I" } : Jvm.MethodName) prog_1_method_45_code (2 : Nat) (Option.some Jvm.ClassFile.FieldType.int)) ∈ BIG := gdW5 204 (by decide +kernel) rfl
theorem bw_1168 : (Jvm.Cond.methodLink "TollClockLaw" (111 : Nat) ({ cls := "TollClock", name := "file", desc := "(I)Z" } : Jvm.MethodName)) ∈ BIG := gdW5 208 (by decide +kernel) rfl
theorem bw_1169 : (Jvm.Cond.instanceMethod ({ cls := "TollClock", name := "file", desc := "(I)Z" } : Jvm.MethodName)) ∈ BIG := gdW5 209 (by decide +kernel) rfl
theorem bw_1170 : (Jvm.Cond.selects "TollClock" ({ cls := "TollClock", name := "file", desc := "(I)Z" } : Jvm.MethodName) ({ cls := "TollClock", name := "file", desc := "(I)Z" } : Jvm.MethodName)) ∈ BIG := gdW5 210 (by decide +kernel) rfl
theorem bw_1171 : (Jvm.Cond.code ({ cls := "TollClock", name := "file", desc := "(I)Z" } : Jvm.MethodName) prog_1_method_46_code (2 : Nat) (Option.some Jvm.ClassFile.FieldType.boolean)) ∈ BIG := gdW5 211 (by decide +kernel) rfl
theorem bw_1172 : (Jvm.Cond.methodLink "TollClock" (287 : Nat) ({ cls := "TollClock", name := "tryFile", desc := "(I)I" } : Jvm.MethodName)) ∈ BIG := gdW5 212 (by decide +kernel) rfl
theorem bw_1174 : (Jvm.Cond.instanceMethod ({ cls := "TollClock", name := "tryFile", desc := "(I)I" } : Jvm.MethodName)) ∈ BIG := gdW5 214 (by decide +kernel) rfl
theorem bw_1175 : (Jvm.Cond.code ({ cls := "TollClock", name := "tryFile", desc := "(I)I" } : Jvm.MethodName) prog_1_method_56_code (3 : Nat) (Option.some Jvm.ClassFile.FieldType.int)) ∈ BIG := gdW5 215 (by decide +kernel) rfl
theorem bw_1179 : (Jvm.Cond.methodLink "TollClockLaw" (114 : Nat) ({ cls := "TollClock", name := "strike", desc := "(I)I" } : Jvm.MethodName)) ∈ BIG := gdW5 219 (by decide +kernel) rfl
theorem bw_1180 : (Jvm.Cond.instanceMethod ({ cls := "TollClock", name := "strike", desc := "(I)I" } : Jvm.MethodName)) ∈ BIG := gdW5 220 (by decide +kernel) rfl
theorem bw_1181 : (Jvm.Cond.selects "TollClock" ({ cls := "TollClock", name := "strike", desc := "(I)I" } : Jvm.MethodName) ({ cls := "TollClock", name := "strike", desc := "(I)I" } : Jvm.MethodName)) ∈ BIG := gdW5 221 (by decide +kernel) rfl
theorem bw_1182 : (Jvm.Cond.code ({ cls := "TollClock", name := "strike", desc := "(I)I" } : Jvm.MethodName) prog_1_method_47_code (2 : Nat) (Option.some Jvm.ClassFile.FieldType.int)) ∈ BIG := gdW5 222 (by decide +kernel) rfl
theorem bw_1183 : (Jvm.Cond.methodLink "TollClock" (290 : Nat) ({ cls := "TollClock", name := "tryStrike", desc := "(I)I" } : Jvm.MethodName)) ∈ BIG := gdW5 223 (by decide +kernel) rfl
theorem bw_1185 : (Jvm.Cond.instanceMethod ({ cls := "TollClock", name := "tryStrike", desc := "(I)I" } : Jvm.MethodName)) ∈ BIG := gdW5 225 (by decide +kernel) rfl
theorem bw_1186 : (Jvm.Cond.code ({ cls := "TollClock", name := "tryStrike", desc := "(I)I" } : Jvm.MethodName) prog_1_method_57_code (2 : Nat) (Option.some Jvm.ClassFile.FieldType.int)) ∈ BIG := gdW5 226 (by decide +kernel) rfl
theorem bw_1187 : (Jvm.Cond.methodLink "TollClock" (335 : Nat) ({ cls := "TollClock$Deadlines", name := "countOpen", desc := "()I" } : Jvm.MethodName)) ∈ BIG := gdW5 227 (by decide +kernel) rfl
theorem bw_1188 : (Jvm.Cond.instanceMethod ({ cls := "TollClock$Deadlines", name := "countOpen", desc := "()I" } : Jvm.MethodName)) ∈ BIG := gdW5 228 (by decide +kernel) rfl
theorem bw_1189 : (Jvm.Cond.selects "TollClock$Deadlines" ({ cls := "TollClock$Deadlines", name := "countOpen", desc := "()I" } : Jvm.MethodName) ({ cls := "TollClock$Deadlines", name := "countOpen", desc := "()I" } : Jvm.MethodName)) ∈ BIG := gdW5 229 (by decide +kernel) rfl
theorem bw_1190 : (Jvm.Cond.code ({ cls := "TollClock$Deadlines", name := "countOpen", desc := "()I" } : Jvm.MethodName) prog_4_method_5_code (3 : Nat) (Option.some Jvm.ClassFile.FieldType.int)) ∈ BIG := gdW5 230 (by decide +kernel) rfl
theorem bw_1191 : (Jvm.Cond.methodLink "TollClock$Deadlines" (57 : Nat) ({ cls := "TollClock$Deadlines", name := "isOpen", desc := "(I)Z" } : Jvm.MethodName)) ∈ BIG := gdW5 231 (by decide +kernel) rfl
theorem bw_1195 : (Jvm.Cond.methodLink "TollClockLaw" (117 : Nat) ({ cls := "TollClock", name := "status", desc := "(I)C" } : Jvm.MethodName)) ∈ BIG := gdW5 235 (by decide +kernel) rfl
theorem bw_1196 : (Jvm.Cond.instanceMethod ({ cls := "TollClock", name := "status", desc := "(I)C" } : Jvm.MethodName)) ∈ BIG := gdW5 236 (by decide +kernel) rfl
theorem bw_1197 : (Jvm.Cond.selects "TollClock" ({ cls := "TollClock", name := "status", desc := "(I)C" } : Jvm.MethodName) ({ cls := "TollClock", name := "status", desc := "(I)C" } : Jvm.MethodName)) ∈ BIG := gdW5 237 (by decide +kernel) rfl
theorem bw_1198 : (Jvm.Cond.code ({ cls := "TollClock", name := "status", desc := "(I)C" } : Jvm.MethodName) prog_1_method_48_code (2 : Nat) (Option.some Jvm.ClassFile.FieldType.char)) ∈ BIG := gdW5 238 (by decide +kernel) rfl
theorem bw_1202 : (Jvm.Cond.methodLink "TollClockLaw" (121 : Nat) ({ cls := "TollClock", name := "openAt", desc := "(I)I" } : Jvm.MethodName)) ∈ BIG := gdW6 2 (by decide +kernel) rfl
theorem bw_1203 : (Jvm.Cond.instanceMethod ({ cls := "TollClock", name := "openAt", desc := "(I)I" } : Jvm.MethodName)) ∈ BIG := gdW6 3 (by decide +kernel) rfl
theorem bw_1204 : (Jvm.Cond.selects "TollClock" ({ cls := "TollClock", name := "openAt", desc := "(I)I" } : Jvm.MethodName) ({ cls := "TollClock", name := "openAt", desc := "(I)I" } : Jvm.MethodName)) ∈ BIG := gdW6 4 (by decide +kernel) rfl
theorem bw_1205 : (Jvm.Cond.code ({ cls := "TollClock", name := "openAt", desc := "(I)I" } : Jvm.MethodName) prog_1_method_49_code (3 : Nat) (Option.some Jvm.ClassFile.FieldType.int)) ∈ BIG := gdW6 5 (by decide +kernel) rfl
theorem bw_1206 : (Jvm.Cond.methodLink "TollClock" (303 : Nat) ({ cls := "TollClock", name := "countOpenAhead", desc := "(I)I" } : Jvm.MethodName)) ∈ BIG := gdW6 6 (by decide +kernel) rfl
theorem bw_1208 : (Jvm.Cond.instanceMethod ({ cls := "TollClock", name := "countOpenAhead", desc := "(I)I" } : Jvm.MethodName)) ∈ BIG := gdW6 8 (by decide +kernel) rfl
theorem bw_1209 : (Jvm.Cond.code ({ cls := "TollClock", name := "countOpenAhead", desc := "(I)I" } : Jvm.MethodName) prog_1_method_61_code (5 : Nat) (Option.some Jvm.ClassFile.FieldType.int)) ∈ BIG := gdW6 9 (by decide +kernel) rfl
theorem bw_1214 : (Jvm.Cond.methodLink "TollClockLaw" (124 : Nat) ({ cls := "TollClock", name := "busiestDay", desc := "()I" } : Jvm.MethodName)) ∈ BIG := gdW6 14 (by decide +kernel) rfl
theorem bw_1215 : (Jvm.Cond.instanceMethod ({ cls := "TollClock", name := "busiestDay", desc := "()I" } : Jvm.MethodName)) ∈ BIG := gdW6 15 (by decide +kernel) rfl
theorem bw_1216 : (Jvm.Cond.selects "TollClock" ({ cls := "TollClock", name := "busiestDay", desc := "()I" } : Jvm.MethodName) ({ cls := "TollClock", name := "busiestDay", desc := "()I" } : Jvm.MethodName)) ∈ BIG := gdW6 16 (by decide +kernel) rfl
theorem bw_1217 : (Jvm.Cond.code ({ cls := "TollClock", name := "busiestDay", desc := "()I" } : Jvm.MethodName) prog_1_method_51_code (6 : Nat) (Option.some Jvm.ClassFile.FieldType.int)) ∈ BIG := gdW6 17 (by decide +kernel) rfl
theorem bw_1218 : (Jvm.Cond.methodLink "TollClock" (308 : Nat) ({ cls := "TollClock", name := "countOpenDueOn", desc := "(I)I" } : Jvm.MethodName)) ∈ BIG := gdW6 18 (by decide +kernel) rfl
theorem bw_1220 : (Jvm.Cond.instanceMethod ({ cls := "TollClock", name := "countOpenDueOn", desc := "(I)I" } : Jvm.MethodName)) ∈ BIG := gdW6 20 (by decide +kernel) rfl
theorem bw_1221 : (Jvm.Cond.code ({ cls := "TollClock", name := "countOpenDueOn", desc := "(I)I" } : Jvm.MethodName) prog_1_method_62_code (4 : Nat) (Option.some Jvm.ClassFile.FieldType.int)) ∈ BIG := gdW6 21 (by decide +kernel) rfl
theorem bw_1225 : (Jvm.Cond.classLink "TollClockLaw" (131 : Nat) "java/lang/ArithmeticException") ∈ BIG := gdW6 25 (by decide +kernel) rfl
theorem bw_1239 : (Jvm.Cond.methodLink "TollClockLaw" (127 : Nat) ({ cls := "TollClock", name := "meanDaysLeft", desc := "()D" } : Jvm.MethodName)) ∈ BIG := gdW6 39 (by decide +kernel) rfl
theorem bw_1240 : (Jvm.Cond.instanceMethod ({ cls := "TollClock", name := "meanDaysLeft", desc := "()D" } : Jvm.MethodName)) ∈ BIG := gdW6 40 (by decide +kernel) rfl
theorem bw_1241 : (Jvm.Cond.selects "TollClock" ({ cls := "TollClock", name := "meanDaysLeft", desc := "()D" } : Jvm.MethodName) ({ cls := "TollClock", name := "meanDaysLeft", desc := "()D" } : Jvm.MethodName)) ∈ BIG := gdW6 41 (by decide +kernel) rfl
theorem bw_1242 : (Jvm.Cond.code ({ cls := "TollClock", name := "meanDaysLeft", desc := "()D" } : Jvm.MethodName) prog_1_method_52_code (4 : Nat) (Option.some Jvm.ClassFile.FieldType.double)) ∈ BIG := gdW6 42 (by decide +kernel) rfl
theorem bw_1243 : (Jvm.Cond.classLink "TollClock" (311 : Nat) "java/lang/ArithmeticException") ∈ BIG := gdW6 43 (by decide +kernel) rfl
theorem bw_1249 : (Jvm.Cond.methodLink "TollClockLaw" (133 : Nat) ({ cls := "TollClock", name := "stayParty", desc := "(II)I" } : Jvm.MethodName)) ∈ BIG := gdW6 49 (by decide +kernel) rfl
theorem bw_1250 : (Jvm.Cond.instanceMethod ({ cls := "TollClock", name := "stayParty", desc := "(II)I" } : Jvm.MethodName)) ∈ BIG := gdW6 50 (by decide +kernel) rfl
theorem bw_1251 : (Jvm.Cond.selects "TollClock" ({ cls := "TollClock", name := "stayParty", desc := "(II)I" } : Jvm.MethodName) ({ cls := "TollClock", name := "stayParty", desc := "(II)I" } : Jvm.MethodName)) ∈ BIG := gdW6 51 (by decide +kernel) rfl
theorem bw_1252 : (Jvm.Cond.code ({ cls := "TollClock", name := "stayParty", desc := "(II)I" } : Jvm.MethodName) prog_1_method_63_code (3 : Nat) (Option.some Jvm.ClassFile.FieldType.int)) ∈ BIG := gdW6 52 (by decide +kernel) rfl
theorem bw_1253 : (Jvm.Cond.methodLink "TollClock" (342 : Nat) ({ cls := "TollClock", name := "tryStayParty", desc := "(II)I" } : Jvm.MethodName)) ∈ BIG := gdW6 53 (by decide +kernel) rfl
theorem bw_1255 : (Jvm.Cond.instanceMethod ({ cls := "TollClock", name := "tryStayParty", desc := "(II)I" } : Jvm.MethodName)) ∈ BIG := gdW6 55 (by decide +kernel) rfl
theorem bw_1256 : (Jvm.Cond.code ({ cls := "TollClock", name := "tryStayParty", desc := "(II)I" } : Jvm.MethodName) prog_1_method_70_code (3 : Nat) (Option.some Jvm.ClassFile.FieldType.int)) ∈ BIG := gdW6 56 (by decide +kernel) rfl
theorem bw_1257 : (Jvm.Cond.methodLink "TollClock" (345 : Nat) ({ cls := "TollClock", name := "tryStay", desc := "(II)I" } : Jvm.MethodName)) ∈ BIG := gdW6 57 (by decide +kernel) rfl
theorem bw_1259 : (Jvm.Cond.instanceMethod ({ cls := "TollClock", name := "tryStay", desc := "(II)I" } : Jvm.MethodName)) ∈ BIG := gdW6 59 (by decide +kernel) rfl
theorem bw_1260 : (Jvm.Cond.code ({ cls := "TollClock", name := "tryStay", desc := "(II)I" } : Jvm.MethodName) prog_1_method_71_code (3 : Nat) (Option.some Jvm.ClassFile.FieldType.int)) ∈ BIG := gdW6 60 (by decide +kernel) rfl
theorem bw_1261 : (Jvm.Cond.methodLink "TollClock" (362 : Nat) ({ cls := "TollClock$Stays", name := "add", desc := "(III)I" } : Jvm.MethodName)) ∈ BIG := gdW6 61 (by decide +kernel) rfl
theorem bw_1262 : (Jvm.Cond.instanceMethod ({ cls := "TollClock$Stays", name := "add", desc := "(III)I" } : Jvm.MethodName)) ∈ BIG := gdW6 62 (by decide +kernel) rfl
theorem bw_1263 : (Jvm.Cond.selects "TollClock$Stays" ({ cls := "TollClock$Stays", name := "add", desc := "(III)I" } : Jvm.MethodName) ({ cls := "TollClock$Stays", name := "add", desc := "(III)I" } : Jvm.MethodName)) ∈ BIG := gdW6 63 (by decide +kernel) rfl
theorem bw_1264 : (Jvm.Cond.code ({ cls := "TollClock$Stays", name := "add", desc := "(III)I" } : Jvm.MethodName) prog_10_method_4_code (4 : Nat) (Option.some Jvm.ClassFile.FieldType.int)) ∈ BIG := gdW6 64 (by decide +kernel) rfl
theorem bw_1268 : (Jvm.Cond.methodLink "TollClockLaw" (136 : Nat) ({ cls := "TollClock", name := "stayAll", desc := "(I)I" } : Jvm.MethodName)) ∈ BIG := gdW6 68 (by decide +kernel) rfl
theorem bw_1269 : (Jvm.Cond.instanceMethod ({ cls := "TollClock", name := "stayAll", desc := "(I)I" } : Jvm.MethodName)) ∈ BIG := gdW6 69 (by decide +kernel) rfl
theorem bw_1270 : (Jvm.Cond.selects "TollClock" ({ cls := "TollClock", name := "stayAll", desc := "(I)I" } : Jvm.MethodName) ({ cls := "TollClock", name := "stayAll", desc := "(I)I" } : Jvm.MethodName)) ∈ BIG := gdW6 70 (by decide +kernel) rfl
theorem bw_1271 : (Jvm.Cond.code ({ cls := "TollClock", name := "stayAll", desc := "(I)I" } : Jvm.MethodName) prog_1_method_64_code (2 : Nat) (Option.some Jvm.ClassFile.FieldType.int)) ∈ BIG := gdW6 71 (by decide +kernel) rfl
theorem bw_1275 : (Jvm.Cond.methodLink "TollClockLaw" (139 : Nat) ({ cls := "TollClock", name := "lift", desc := "(I)I" } : Jvm.MethodName)) ∈ BIG := gdW6 75 (by decide +kernel) rfl
theorem bw_1276 : (Jvm.Cond.instanceMethod ({ cls := "TollClock", name := "lift", desc := "(I)I" } : Jvm.MethodName)) ∈ BIG := gdW6 76 (by decide +kernel) rfl
theorem bw_1277 : (Jvm.Cond.selects "TollClock" ({ cls := "TollClock", name := "lift", desc := "(I)I" } : Jvm.MethodName) ({ cls := "TollClock", name := "lift", desc := "(I)I" } : Jvm.MethodName)) ∈ BIG := gdW6 77 (by decide +kernel) rfl
theorem bw_1278 : (Jvm.Cond.code ({ cls := "TollClock", name := "lift", desc := "(I)I" } : Jvm.MethodName) prog_1_method_65_code (2 : Nat) (Option.some Jvm.ClassFile.FieldType.int)) ∈ BIG := gdW6 78 (by decide +kernel) rfl
theorem bw_1279 : (Jvm.Cond.methodLink "TollClock" (348 : Nat) ({ cls := "TollClock", name := "tryLift", desc := "(I)I" } : Jvm.MethodName)) ∈ BIG := gdW6 79 (by decide +kernel) rfl
theorem bw_1281 : (Jvm.Cond.instanceMethod ({ cls := "TollClock", name := "tryLift", desc := "(I)I" } : Jvm.MethodName)) ∈ BIG := gdW6 81 (by decide +kernel) rfl
theorem bw_1282 : (Jvm.Cond.code ({ cls := "TollClock", name := "tryLift", desc := "(I)I" } : Jvm.MethodName) prog_1_method_72_code (2 : Nat) (Option.some Jvm.ClassFile.FieldType.int)) ∈ BIG := gdW6 82 (by decide +kernel) rfl
theorem bw_1283 : (Jvm.Cond.methodLink "TollClock" (365 : Nat) ({ cls := "TollClock$Stays", name := "has", desc := "(I)Z" } : Jvm.MethodName)) ∈ BIG := gdW6 83 (by decide +kernel) rfl
theorem bw_1284 : (Jvm.Cond.instanceMethod ({ cls := "TollClock$Stays", name := "has", desc := "(I)Z" } : Jvm.MethodName)) ∈ BIG := gdW6 84 (by decide +kernel) rfl
theorem bw_1285 : (Jvm.Cond.selects "TollClock$Stays" ({ cls := "TollClock$Stays", name := "has", desc := "(I)Z" } : Jvm.MethodName) ({ cls := "TollClock$Stays", name := "has", desc := "(I)Z" } : Jvm.MethodName)) ∈ BIG := gdW6 85 (by decide +kernel) rfl
theorem bw_1286 : (Jvm.Cond.code ({ cls := "TollClock$Stays", name := "has", desc := "(I)Z" } : Jvm.MethodName) prog_10_method_3_code (2 : Nat) (Option.some Jvm.ClassFile.FieldType.boolean)) ∈ BIG := gdW6 86 (by decide +kernel) rfl
theorem bw_1287 : (Jvm.Cond.methodLink "TollClock" (366 : Nat) ({ cls := "TollClock$Stays", name := "isInForce", desc := "(I)Z" } : Jvm.MethodName)) ∈ BIG := gdW6 87 (by decide +kernel) rfl
theorem bw_1291 : (Jvm.Cond.methodLink "TollClockLaw" (142 : Nat) ({ cls := "TollClock", name := "isStopped", desc := "(II)Z" } : Jvm.MethodName)) ∈ BIG := gdW6 91 (by decide +kernel) rfl
theorem bw_1292 : (Jvm.Cond.instanceMethod ({ cls := "TollClock", name := "isStopped", desc := "(II)Z" } : Jvm.MethodName)) ∈ BIG := gdW6 92 (by decide +kernel) rfl
theorem bw_1293 : (Jvm.Cond.selects "TollClock" ({ cls := "TollClock", name := "isStopped", desc := "(II)Z" } : Jvm.MethodName) ({ cls := "TollClock", name := "isStopped", desc := "(II)Z" } : Jvm.MethodName)) ∈ BIG := gdW6 93 (by decide +kernel) rfl
theorem bw_1294 : (Jvm.Cond.code ({ cls := "TollClock", name := "isStopped", desc := "(II)Z" } : Jvm.MethodName) prog_1_method_67_code (3 : Nat) (Option.some Jvm.ClassFile.FieldType.boolean)) ∈ BIG := gdW6 94 (by decide +kernel) rfl
theorem bw_1298 : (Jvm.Cond.methodLink "TollClockLaw" (146 : Nat) ({ cls := "TollClock", name := "stoppedDays", desc := "(III)I" } : Jvm.MethodName)) ∈ BIG := gdW6 98 (by decide +kernel) rfl
theorem bw_1299 : (Jvm.Cond.instanceMethod ({ cls := "TollClock", name := "stoppedDays", desc := "(III)I" } : Jvm.MethodName)) ∈ BIG := gdW6 99 (by decide +kernel) rfl
theorem bw_1300 : (Jvm.Cond.selects "TollClock" ({ cls := "TollClock", name := "stoppedDays", desc := "(III)I" } : Jvm.MethodName) ({ cls := "TollClock", name := "stoppedDays", desc := "(III)I" } : Jvm.MethodName)) ∈ BIG := gdW6 100 (by decide +kernel) rfl
theorem bw_1301 : (Jvm.Cond.code ({ cls := "TollClock", name := "stoppedDays", desc := "(III)I" } : Jvm.MethodName) prog_1_method_68_code (4 : Nat) (Option.some Jvm.ClassFile.FieldType.int)) ∈ BIG := gdW6 101 (by decide +kernel) rfl
theorem bw_1305 : (Jvm.Cond.methodLink "TollClockLaw" (150 : Nat) ({ cls := "TollClock", name := "stoppedDaysByMarking", desc := "(III)I" } : Jvm.MethodName)) ∈ BIG := gdW6 105 (by decide +kernel) rfl
theorem bw_1306 : (Jvm.Cond.instanceMethod ({ cls := "TollClock", name := "stoppedDaysByMarking", desc := "(III)I" } : Jvm.MethodName)) ∈ BIG := gdW6 106 (by decide +kernel) rfl
theorem bw_1307 : (Jvm.Cond.selects "TollClock" ({ cls := "TollClock", name := "stoppedDaysByMarking", desc := "(III)I" } : Jvm.MethodName) ({ cls := "TollClock", name := "stoppedDaysByMarking", desc := "(III)I" } : Jvm.MethodName)) ∈ BIG := gdW6 107 (by decide +kernel) rfl
theorem bw_1308 : (Jvm.Cond.code ({ cls := "TollClock", name := "stoppedDaysByMarking", desc := "(III)I" } : Jvm.MethodName) prog_1_method_69_code (4 : Nat) (Option.some Jvm.ClassFile.FieldType.int)) ∈ BIG := gdW6 108 (by decide +kernel) rfl
theorem bw_1312 : (Jvm.Cond.methodLink "TollClockLaw" (153 : Nat) ({ cls := "TollClock", name := "addOccurrence", desc := "(II)I" } : Jvm.MethodName)) ∈ BIG := gdW6 112 (by decide +kernel) rfl
theorem bw_1313 : (Jvm.Cond.instanceMethod ({ cls := "TollClock", name := "addOccurrence", desc := "(II)I" } : Jvm.MethodName)) ∈ BIG := gdW6 113 (by decide +kernel) rfl
theorem bw_1314 : (Jvm.Cond.selects "TollClock" ({ cls := "TollClock", name := "addOccurrence", desc := "(II)I" } : Jvm.MethodName) ({ cls := "TollClock", name := "addOccurrence", desc := "(II)I" } : Jvm.MethodName)) ∈ BIG := gdW6 114 (by decide +kernel) rfl
theorem bw_1315 : (Jvm.Cond.code ({ cls := "TollClock", name := "addOccurrence", desc := "(II)I" } : Jvm.MethodName) prog_1_method_73_code (3 : Nat) (Option.some Jvm.ClassFile.FieldType.int)) ∈ BIG := gdW6 115 (by decide +kernel) rfl
theorem bw_1316 : (Jvm.Cond.methodLink "TollClock" (375 : Nat) ({ cls := "TollClock", name := "tryAddOccurrence", desc := "(II)I" } : Jvm.MethodName)) ∈ BIG := gdW6 116 (by decide +kernel) rfl
theorem bw_1318 : (Jvm.Cond.instanceMethod ({ cls := "TollClock", name := "tryAddOccurrence", desc := "(II)I" } : Jvm.MethodName)) ∈ BIG := gdW6 118 (by decide +kernel) rfl
theorem bw_1319 : (Jvm.Cond.code ({ cls := "TollClock", name := "tryAddOccurrence", desc := "(II)I" } : Jvm.MethodName) prog_1_method_83_code (3 : Nat) (Option.some Jvm.ClassFile.FieldType.int)) ∈ BIG := gdW6 119 (by decide +kernel) rfl
theorem bw_1320 : (Jvm.Cond.methodLink "TollClock" (418 : Nat) ({ cls := "TollClock$Claims", name := "keepOccurrence", desc := "(IILTollClock$Rules;)I" } : Jvm.MethodName)) ∈ BIG := gdW6 120 (by decide +kernel) rfl
theorem bw_1321 : (Jvm.Cond.instanceMethod ({ cls := "TollClock$Claims", name := "keepOccurrence", desc := "(IILTollClock$Rules;)I" } : Jvm.MethodName)) ∈ BIG := gdW6 121 (by decide +kernel) rfl
theorem bw_1322 : (Jvm.Cond.selects "TollClock$Claims" ({ cls := "TollClock$Claims", name := "keepOccurrence", desc := "(IILTollClock$Rules;)I" } : Jvm.MethodName) ({ cls := "TollClock$Claims", name := "keepOccurrence", desc := "(IILTollClock$Rules;)I" } : Jvm.MethodName)) ∈ BIG := gdW6 122 (by decide +kernel) rfl
theorem bw_1323 : (Jvm.Cond.code ({ cls := "TollClock$Claims", name := "keepOccurrence", desc := "(IILTollClock$Rules;)I" } : Jvm.MethodName) prog_3_method_4_code (5 : Nat) (Option.some Jvm.ClassFile.FieldType.int)) ∈ BIG := gdW6 123 (by decide +kernel) rfl
theorem bw_1324 : (Jvm.Cond.methodLink "TollClock$Claims" (52 : Nat) ({ cls := "TollClock$Deadlines", name := "add", desc := "(IIILTollClock$Rules;)I" } : Jvm.MethodName)) ∈ BIG := gdW6 124 (by decide +kernel) rfl
theorem bw_1328 : (Jvm.Cond.methodLink "TollClockLaw" (156 : Nat) ({ cls := "TollClock", name := "linkOccurrences", desc := "(II)I" } : Jvm.MethodName)) ∈ BIG := gdW6 128 (by decide +kernel) rfl
theorem bw_1329 : (Jvm.Cond.instanceMethod ({ cls := "TollClock", name := "linkOccurrences", desc := "(II)I" } : Jvm.MethodName)) ∈ BIG := gdW6 129 (by decide +kernel) rfl
theorem bw_1330 : (Jvm.Cond.selects "TollClock" ({ cls := "TollClock", name := "linkOccurrences", desc := "(II)I" } : Jvm.MethodName) ({ cls := "TollClock", name := "linkOccurrences", desc := "(II)I" } : Jvm.MethodName)) ∈ BIG := gdW6 130 (by decide +kernel) rfl
theorem bw_1331 : (Jvm.Cond.code ({ cls := "TollClock", name := "linkOccurrences", desc := "(II)I" } : Jvm.MethodName) prog_1_method_74_code (3 : Nat) (Option.some Jvm.ClassFile.FieldType.int)) ∈ BIG := gdW6 131 (by decide +kernel) rfl
theorem bw_1332 : (Jvm.Cond.methodLink "TollClock" (378 : Nat) ({ cls := "TollClock", name := "tryLinkOccurrences", desc := "(II)I" } : Jvm.MethodName)) ∈ BIG := gdW6 132 (by decide +kernel) rfl
theorem bw_1334 : (Jvm.Cond.instanceMethod ({ cls := "TollClock", name := "tryLinkOccurrences", desc := "(II)I" } : Jvm.MethodName)) ∈ BIG := gdW6 134 (by decide +kernel) rfl
theorem bw_1335 : (Jvm.Cond.code ({ cls := "TollClock", name := "tryLinkOccurrences", desc := "(II)I" } : Jvm.MethodName) prog_1_method_84_code (3 : Nat) (Option.some Jvm.ClassFile.FieldType.int)) ∈ BIG := gdW6 135 (by decide +kernel) rfl
theorem bw_1336 : (Jvm.Cond.methodLink "TollClock" (422 : Nat) ({ cls := "TollClock$Claims", name := "areLinked", desc := "(II)Z" } : Jvm.MethodName)) ∈ BIG := gdW6 136 (by decide +kernel) rfl
theorem bw_1337 : (Jvm.Cond.instanceMethod ({ cls := "TollClock$Claims", name := "areLinked", desc := "(II)Z" } : Jvm.MethodName)) ∈ BIG := gdW6 137 (by decide +kernel) rfl
theorem bw_1338 : (Jvm.Cond.selects "TollClock$Claims" ({ cls := "TollClock$Claims", name := "areLinked", desc := "(II)Z" } : Jvm.MethodName) ({ cls := "TollClock$Claims", name := "areLinked", desc := "(II)Z" } : Jvm.MethodName)) ∈ BIG := gdW6 138 (by decide +kernel) rfl
theorem bw_1339 : (Jvm.Cond.code ({ cls := "TollClock$Claims", name := "areLinked", desc := "(II)Z" } : Jvm.MethodName) prog_3_method_5_code (3 : Nat) (Option.some Jvm.ClassFile.FieldType.boolean)) ∈ BIG := gdW6 139 (by decide +kernel) rfl
theorem bw_1340 : (Jvm.Cond.methodLink "TollClock" (425 : Nat) ({ cls := "TollClock$Claims", name := "link", desc := "(II)V" } : Jvm.MethodName)) ∈ BIG := gdW6 140 (by decide +kernel) rfl
theorem bw_1341 : (Jvm.Cond.instanceMethod ({ cls := "TollClock$Claims", name := "link", desc := "(II)V" } : Jvm.MethodName)) ∈ BIG := gdW6 141 (by decide +kernel) rfl
theorem bw_1342 : (Jvm.Cond.selects "TollClock$Claims" ({ cls := "TollClock$Claims", name := "link", desc := "(II)V" } : Jvm.MethodName) ({ cls := "TollClock$Claims", name := "link", desc := "(II)V" } : Jvm.MethodName)) ∈ BIG := gdW6 142 (by decide +kernel) rfl
theorem bw_1343 : (Jvm.Cond.code ({ cls := "TollClock$Claims", name := "link", desc := "(II)V" } : Jvm.MethodName) prog_3_method_6_code (6 : Nat) (Option.none : Option Jvm.ClassFile.FieldType)) ∈ BIG := gdW6 143 (by decide +kernel) rfl
theorem bw_1344 : (Jvm.Cond.methodLink "TollClock$Claims" (56 : Nat) ({ cls := "java/lang/Math", name := "min", desc := "(II)I" } : Jvm.MethodName)) ∈ BIG := gdW6 144 (by decide +kernel) rfl
theorem bw_1345 : (Jvm.Cond.methodLink "TollClock$Claims" (62 : Nat) ({ cls := "java/lang/Math", name := "max", desc := "(II)I" } : Jvm.MethodName)) ∈ BIG := gdW6 145 (by decide +kernel) rfl
theorem bw_1346 : (Jvm.Cond.methodLink "TollClock" (428 : Nat) ({ cls := "TollClock$Claims", name := "countGroups", desc := "()I" } : Jvm.MethodName)) ∈ BIG := gdW6 146 (by decide +kernel) rfl
theorem bw_1347 : (Jvm.Cond.instanceMethod ({ cls := "TollClock$Claims", name := "countGroups", desc := "()I" } : Jvm.MethodName)) ∈ BIG := gdW6 147 (by decide +kernel) rfl
theorem bw_1348 : (Jvm.Cond.selects "TollClock$Claims" ({ cls := "TollClock$Claims", name := "countGroups", desc := "()I" } : Jvm.MethodName) ({ cls := "TollClock$Claims", name := "countGroups", desc := "()I" } : Jvm.MethodName)) ∈ BIG := gdW6 148 (by decide +kernel) rfl
theorem bw_1349 : (Jvm.Cond.code ({ cls := "TollClock$Claims", name := "countGroups", desc := "()I" } : Jvm.MethodName) prog_3_method_7_code (3 : Nat) (Option.some Jvm.ClassFile.FieldType.int)) ∈ BIG := gdW6 149 (by decide +kernel) rfl
theorem bw_1353 : (Jvm.Cond.methodLink "TollClockLaw" (159 : Nat) ({ cls := "TollClock", name := "sameConduct", desc := "(II)Z" } : Jvm.MethodName)) ∈ BIG := gdW6 153 (by decide +kernel) rfl
theorem bw_1354 : (Jvm.Cond.instanceMethod ({ cls := "TollClock", name := "sameConduct", desc := "(II)Z" } : Jvm.MethodName)) ∈ BIG := gdW6 154 (by decide +kernel) rfl
theorem bw_1355 : (Jvm.Cond.selects "TollClock" ({ cls := "TollClock", name := "sameConduct", desc := "(II)Z" } : Jvm.MethodName) ({ cls := "TollClock", name := "sameConduct", desc := "(II)Z" } : Jvm.MethodName)) ∈ BIG := gdW6 155 (by decide +kernel) rfl
theorem bw_1356 : (Jvm.Cond.code ({ cls := "TollClock", name := "sameConduct", desc := "(II)Z" } : Jvm.MethodName) prog_1_method_75_code (3 : Nat) (Option.some Jvm.ClassFile.FieldType.boolean)) ∈ BIG := gdW6 156 (by decide +kernel) rfl
theorem bw_1357 : (Jvm.Cond.methodLink "TollClock" (381 : Nat) ({ cls := "TollClock", name := "needOccurrence", desc := "(I)V" } : Jvm.MethodName)) ∈ BIG := gdW6 157 (by decide +kernel) rfl
theorem bw_1359 : (Jvm.Cond.instanceMethod ({ cls := "TollClock", name := "needOccurrence", desc := "(I)V" } : Jvm.MethodName)) ∈ BIG := gdW6 159 (by decide +kernel) rfl
theorem bw_1360 : (Jvm.Cond.code ({ cls := "TollClock", name := "needOccurrence", desc := "(I)V" } : Jvm.MethodName) prog_1_method_87_code (2 : Nat) (Option.none : Option Jvm.ClassFile.FieldType)) ∈ BIG := gdW6 160 (by decide +kernel) rfl
theorem bw_1365 : (Jvm.Cond.methodLink "TollClockLaw" (162 : Nat) ({ cls := "TollClock", name := "sameConductBySearch", desc := "(II)Z" } : Jvm.MethodName)) ∈ BIG := gdW6 165 (by decide +kernel) rfl
theorem bw_1366 : (Jvm.Cond.instanceMethod ({ cls := "TollClock", name := "sameConductBySearch", desc := "(II)Z" } : Jvm.MethodName)) ∈ BIG := gdW6 166 (by decide +kernel) rfl
theorem bw_1367 : (Jvm.Cond.selects "TollClock" ({ cls := "TollClock", name := "sameConductBySearch", desc := "(II)Z" } : Jvm.MethodName) ({ cls := "TollClock", name := "sameConductBySearch", desc := "(II)Z" } : Jvm.MethodName)) ∈ BIG := gdW6 167 (by decide +kernel) rfl
theorem bw_1368 : (Jvm.Cond.code ({ cls := "TollClock", name := "sameConductBySearch", desc := "(II)Z" } : Jvm.MethodName) prog_1_method_76_code (3 : Nat) (Option.some Jvm.ClassFile.FieldType.boolean)) ∈ BIG := gdW6 168 (by decide +kernel) rfl
theorem bw_1372 : (Jvm.Cond.methodLink "TollClockLaw" (165 : Nat) ({ cls := "TollClock", name := "barDay", desc := "(I)I" } : Jvm.MethodName)) ∈ BIG := gdW6 172 (by decide +kernel) rfl
theorem bw_1373 : (Jvm.Cond.instanceMethod ({ cls := "TollClock", name := "barDay", desc := "(I)I" } : Jvm.MethodName)) ∈ BIG := gdW6 173 (by decide +kernel) rfl
theorem bw_1374 : (Jvm.Cond.selects "TollClock" ({ cls := "TollClock", name := "barDay", desc := "(I)I" } : Jvm.MethodName) ({ cls := "TollClock", name := "barDay", desc := "(I)I" } : Jvm.MethodName)) ∈ BIG := gdW6 174 (by decide +kernel) rfl
theorem bw_1375 : (Jvm.Cond.code ({ cls := "TollClock", name := "barDay", desc := "(I)I" } : Jvm.MethodName) prog_1_method_77_code (2 : Nat) (Option.some Jvm.ClassFile.FieldType.int)) ∈ BIG := gdW6 175 (by decide +kernel) rfl
theorem bw_1379 : (Jvm.Cond.methodLink "TollClockLaw" (168 : Nat) ({ cls := "TollClock", name := "fileClaim", desc := "(II)I" } : Jvm.MethodName)) ∈ BIG := gdW6 179 (by decide +kernel) rfl
theorem bw_1380 : (Jvm.Cond.instanceMethod ({ cls := "TollClock", name := "fileClaim", desc := "(II)I" } : Jvm.MethodName)) ∈ BIG := gdW6 180 (by decide +kernel) rfl
theorem bw_1381 : (Jvm.Cond.selects "TollClock" ({ cls := "TollClock", name := "fileClaim", desc := "(II)I" } : Jvm.MethodName) ({ cls := "TollClock", name := "fileClaim", desc := "(II)I" } : Jvm.MethodName)) ∈ BIG := gdW6 181 (by decide +kernel) rfl
theorem bw_1382 : (Jvm.Cond.code ({ cls := "TollClock", name := "fileClaim", desc := "(II)I" } : Jvm.MethodName) prog_1_method_78_code (3 : Nat) (Option.some Jvm.ClassFile.FieldType.int)) ∈ BIG := gdW6 182 (by decide +kernel) rfl
theorem bw_1383 : (Jvm.Cond.methodLink "TollClock" (400 : Nat) ({ cls := "TollClock", name := "tryFileClaim", desc := "(II)I" } : Jvm.MethodName)) ∈ BIG := gdW6 183 (by decide +kernel) rfl
theorem bw_1385 : (Jvm.Cond.instanceMethod ({ cls := "TollClock", name := "tryFileClaim", desc := "(II)I" } : Jvm.MethodName)) ∈ BIG := gdW6 185 (by decide +kernel) rfl
theorem bw_1386 : (Jvm.Cond.code ({ cls := "TollClock", name := "tryFileClaim", desc := "(II)I" } : Jvm.MethodName) prog_1_method_85_code (3 : Nat) (Option.some Jvm.ClassFile.FieldType.int)) ∈ BIG := gdW6 186 (by decide +kernel) rfl
theorem bw_1387 : (Jvm.Cond.methodLink "TollClock" (431 : Nat) ({ cls := "TollClock$Claims", name := "addClaim", desc := "(IIII)I" } : Jvm.MethodName)) ∈ BIG := gdW6 187 (by decide +kernel) rfl
theorem bw_1388 : (Jvm.Cond.instanceMethod ({ cls := "TollClock$Claims", name := "addClaim", desc := "(IIII)I" } : Jvm.MethodName)) ∈ BIG := gdW6 188 (by decide +kernel) rfl
theorem bw_1389 : (Jvm.Cond.selects "TollClock$Claims" ({ cls := "TollClock$Claims", name := "addClaim", desc := "(IIII)I" } : Jvm.MethodName) ({ cls := "TollClock$Claims", name := "addClaim", desc := "(IIII)I" } : Jvm.MethodName)) ∈ BIG := gdW6 189 (by decide +kernel) rfl
theorem bw_1390 : (Jvm.Cond.code ({ cls := "TollClock$Claims", name := "addClaim", desc := "(IIII)I" } : Jvm.MethodName) prog_3_method_11_code (5 : Nat) (Option.some Jvm.ClassFile.FieldType.int)) ∈ BIG := gdW6 190 (by decide +kernel) rfl
theorem bw_1394 : (Jvm.Cond.methodLink "TollClockLaw" (171 : Nat) ({ cls := "TollClock", name := "amendClaim", desc := "(II)I" } : Jvm.MethodName)) ∈ BIG := gdW6 194 (by decide +kernel) rfl
theorem bw_1395 : (Jvm.Cond.instanceMethod ({ cls := "TollClock", name := "amendClaim", desc := "(II)I" } : Jvm.MethodName)) ∈ BIG := gdW6 195 (by decide +kernel) rfl
theorem bw_1396 : (Jvm.Cond.selects "TollClock" ({ cls := "TollClock", name := "amendClaim", desc := "(II)I" } : Jvm.MethodName) ({ cls := "TollClock", name := "amendClaim", desc := "(II)I" } : Jvm.MethodName)) ∈ BIG := gdW6 196 (by decide +kernel) rfl
theorem bw_1397 : (Jvm.Cond.code ({ cls := "TollClock", name := "amendClaim", desc := "(II)I" } : Jvm.MethodName) prog_1_method_79_code (3 : Nat) (Option.some Jvm.ClassFile.FieldType.int)) ∈ BIG := gdW6 197 (by decide +kernel) rfl
theorem bw_1398 : (Jvm.Cond.methodLink "TollClock" (403 : Nat) ({ cls := "TollClock", name := "tryAmendClaim", desc := "(II)I" } : Jvm.MethodName)) ∈ BIG := gdW6 198 (by decide +kernel) rfl
theorem bw_1400 : (Jvm.Cond.instanceMethod ({ cls := "TollClock", name := "tryAmendClaim", desc := "(II)I" } : Jvm.MethodName)) ∈ BIG := gdW6 200 (by decide +kernel) rfl
theorem bw_1401 : (Jvm.Cond.code ({ cls := "TollClock", name := "tryAmendClaim", desc := "(II)I" } : Jvm.MethodName) prog_1_method_86_code (3 : Nat) (Option.some Jvm.ClassFile.FieldType.int)) ∈ BIG := gdW6 201 (by decide +kernel) rfl
theorem bw_1402 : (Jvm.Cond.methodLink "TollClock" (435 : Nat) ({ cls := "TollClock$Claims", name := "has", desc := "(I)Z" } : Jvm.MethodName)) ∈ BIG := gdW6 202 (by decide +kernel) rfl
theorem bw_1403 : (Jvm.Cond.instanceMethod ({ cls := "TollClock$Claims", name := "has", desc := "(I)Z" } : Jvm.MethodName)) ∈ BIG := gdW6 203 (by decide +kernel) rfl
theorem bw_1404 : (Jvm.Cond.selects "TollClock$Claims" ({ cls := "TollClock$Claims", name := "has", desc := "(I)Z" } : Jvm.MethodName) ({ cls := "TollClock$Claims", name := "has", desc := "(I)Z" } : Jvm.MethodName)) ∈ BIG := gdW6 204 (by decide +kernel) rfl
theorem bw_1405 : (Jvm.Cond.code ({ cls := "TollClock$Claims", name := "has", desc := "(I)Z" } : Jvm.MethodName) prog_3_method_3_code (2 : Nat) (Option.some Jvm.ClassFile.FieldType.boolean)) ∈ BIG := gdW6 205 (by decide +kernel) rfl
theorem bw_1409 : (Jvm.Cond.methodLink "TollClockLaw" (174 : Nat) ({ cls := "TollClock", name := "effectiveDay", desc := "(I)I" } : Jvm.MethodName)) ∈ BIG := gdW6 209 (by decide +kernel) rfl
theorem bw_1410 : (Jvm.Cond.instanceMethod ({ cls := "TollClock", name := "effectiveDay", desc := "(I)I" } : Jvm.MethodName)) ∈ BIG := gdW6 210 (by decide +kernel) rfl
theorem bw_1411 : (Jvm.Cond.selects "TollClock" ({ cls := "TollClock", name := "effectiveDay", desc := "(I)I" } : Jvm.MethodName) ({ cls := "TollClock", name := "effectiveDay", desc := "(I)I" } : Jvm.MethodName)) ∈ BIG := gdW6 211 (by decide +kernel) rfl
theorem bw_1412 : (Jvm.Cond.code ({ cls := "TollClock", name := "effectiveDay", desc := "(I)I" } : Jvm.MethodName) prog_1_method_80_code (2 : Nat) (Option.some Jvm.ClassFile.FieldType.int)) ∈ BIG := gdW6 212 (by decide +kernel) rfl
theorem bw_1413 : (Jvm.Cond.methodLink "TollClock" (406 : Nat) ({ cls := "TollClock", name := "needClaim", desc := "(I)V" } : Jvm.MethodName)) ∈ BIG := gdW6 213 (by decide +kernel) rfl
theorem bw_1415 : (Jvm.Cond.instanceMethod ({ cls := "TollClock", name := "needClaim", desc := "(I)V" } : Jvm.MethodName)) ∈ BIG := gdW6 215 (by decide +kernel) rfl
theorem bw_1416 : (Jvm.Cond.code ({ cls := "TollClock", name := "needClaim", desc := "(I)V" } : Jvm.MethodName) prog_1_method_88_code (2 : Nat) (Option.none : Option Jvm.ClassFile.FieldType)) ∈ BIG := gdW6 216 (by decide +kernel) rfl
theorem bw_1418 : (Jvm.Cond.methodLink "TollClock" (409 : Nat) ({ cls := "TollClock$Claims", name := "effectiveDayOf", desc := "(I)I" } : Jvm.MethodName)) ∈ BIG := gdW6 218 (by decide +kernel) rfl
theorem bw_1419 : (Jvm.Cond.instanceMethod ({ cls := "TollClock$Claims", name := "effectiveDayOf", desc := "(I)I" } : Jvm.MethodName)) ∈ BIG := gdW6 219 (by decide +kernel) rfl
theorem bw_1420 : (Jvm.Cond.selects "TollClock$Claims" ({ cls := "TollClock$Claims", name := "effectiveDayOf", desc := "(I)I" } : Jvm.MethodName) ({ cls := "TollClock$Claims", name := "effectiveDayOf", desc := "(I)I" } : Jvm.MethodName)) ∈ BIG := gdW6 220 (by decide +kernel) rfl
theorem bw_1421 : (Jvm.Cond.code ({ cls := "TollClock$Claims", name := "effectiveDayOf", desc := "(I)I" } : Jvm.MethodName) prog_3_method_12_code (4 : Nat) (Option.some Jvm.ClassFile.FieldType.int)) ∈ BIG := gdW6 221 (by decide +kernel) rfl
theorem bw_1422 : (Jvm.Cond.methodLink "TollClock$Claims" (69 : Nat) ({ cls := "TollClock$Claims", name := "relatesBack", desc := "(I)Z" } : Jvm.MethodName)) ∈ BIG := gdW6 222 (by decide +kernel) rfl
theorem bw_1424 : (Jvm.Cond.instanceMethod ({ cls := "TollClock$Claims", name := "relatesBack", desc := "(I)Z" } : Jvm.MethodName)) ∈ BIG := gdW6 224 (by decide +kernel) rfl
theorem bw_1425 : (Jvm.Cond.code ({ cls := "TollClock$Claims", name := "relatesBack", desc := "(I)Z" } : Jvm.MethodName) prog_3_method_13_code (3 : Nat) (Option.some Jvm.ClassFile.FieldType.boolean)) ∈ BIG := gdW6 225 (by decide +kernel) rfl
theorem bw_1426 : (Jvm.Cond.methodLink "TollClock$Claims" (73 : Nat) ({ cls := "TollClock$Claims", name := "inSameGroup", desc := "(II)Z" } : Jvm.MethodName)) ∈ BIG := gdW6 226 (by decide +kernel) rfl
theorem bw_1430 : (Jvm.Cond.methodLink "TollClockLaw" (177 : Nat) ({ cls := "TollClock", name := "isTimely", desc := "(I)Z" } : Jvm.MethodName)) ∈ BIG := gdW6 230 (by decide +kernel) rfl
theorem bw_1431 : (Jvm.Cond.instanceMethod ({ cls := "TollClock", name := "isTimely", desc := "(I)Z" } : Jvm.MethodName)) ∈ BIG := gdW6 231 (by decide +kernel) rfl
theorem bw_1432 : (Jvm.Cond.selects "TollClock" ({ cls := "TollClock", name := "isTimely", desc := "(I)Z" } : Jvm.MethodName) ({ cls := "TollClock", name := "isTimely", desc := "(I)Z" } : Jvm.MethodName)) ∈ BIG := gdW6 232 (by decide +kernel) rfl
theorem bw_1433 : (Jvm.Cond.code ({ cls := "TollClock", name := "isTimely", desc := "(I)Z" } : Jvm.MethodName) prog_1_method_81_code (2 : Nat) (Option.some Jvm.ClassFile.FieldType.boolean)) ∈ BIG := gdW6 233 (by decide +kernel) rfl
theorem bw_1434 : (Jvm.Cond.methodLink "TollClock" (412 : Nat) ({ cls := "TollClock", name := "meetsBar", desc := "(I)Z" } : Jvm.MethodName)) ∈ BIG := gdW6 234 (by decide +kernel) rfl
theorem bw_1436 : (Jvm.Cond.instanceMethod ({ cls := "TollClock", name := "meetsBar", desc := "(I)Z" } : Jvm.MethodName)) ∈ BIG := gdW6 236 (by decide +kernel) rfl
theorem bw_1437 : (Jvm.Cond.code ({ cls := "TollClock", name := "meetsBar", desc := "(I)Z" } : Jvm.MethodName) prog_1_method_89_code (3 : Nat) (Option.some Jvm.ClassFile.FieldType.boolean)) ∈ BIG := gdW6 237 (by decide +kernel) rfl
theorem bw_1441 : (Jvm.Cond.methodLink "TollClockLaw" (180 : Nat) ({ cls := "TollClock", name := "timelyClaims", desc := "(I)I" } : Jvm.MethodName)) ∈ BIG := gdW7 1 (by decide +kernel) rfl
theorem bw_1442 : (Jvm.Cond.instanceMethod ({ cls := "TollClock", name := "timelyClaims", desc := "(I)I" } : Jvm.MethodName)) ∈ BIG := gdW7 2 (by decide +kernel) rfl
theorem bw_1443 : (Jvm.Cond.selects "TollClock" ({ cls := "TollClock", name := "timelyClaims", desc := "(I)I" } : Jvm.MethodName) ({ cls := "TollClock", name := "timelyClaims", desc := "(I)I" } : Jvm.MethodName)) ∈ BIG := gdW7 3 (by decide +kernel) rfl
theorem bw_1444 : (Jvm.Cond.code ({ cls := "TollClock", name := "timelyClaims", desc := "(I)I" } : Jvm.MethodName) prog_1_method_82_code (4 : Nat) (Option.some Jvm.ClassFile.FieldType.int)) ∈ BIG := gdW7 4 (by decide +kernel) rfl
theorem bw_1448 : (Jvm.Cond.methodLink "TollClockLaw" (183 : Nat) ({ cls := "TollClock", name := "writeDeadline", desc := "(I)I" } : Jvm.MethodName)) ∈ BIG := gdW7 8 (by decide +kernel) rfl
theorem bw_1449 : (Jvm.Cond.instanceMethod ({ cls := "TollClock", name := "writeDeadline", desc := "(I)I" } : Jvm.MethodName)) ∈ BIG := gdW7 9 (by decide +kernel) rfl
theorem bw_1450 : (Jvm.Cond.selects "TollClock" ({ cls := "TollClock", name := "writeDeadline", desc := "(I)I" } : Jvm.MethodName) ({ cls := "TollClock", name := "writeDeadline", desc := "(I)I" } : Jvm.MethodName)) ∈ BIG := gdW7 10 (by decide +kernel) rfl
theorem bw_1451 : (Jvm.Cond.code ({ cls := "TollClock", name := "writeDeadline", desc := "(I)I" } : Jvm.MethodName) prog_1_method_90_code (3 : Nat) (Option.some Jvm.ClassFile.FieldType.int)) ∈ BIG := gdW7 11 (by decide +kernel) rfl
theorem bw_1452 : (Jvm.Cond.methodLink "TollClock" (443 : Nat) ({ cls := "TollClock$Text", name := "appendNumber", desc := "(I)V" } : Jvm.MethodName)) ∈ BIG := gdW7 12 (by decide +kernel) rfl
theorem bw_1453 : (Jvm.Cond.instanceMethod ({ cls := "TollClock$Text", name := "appendNumber", desc := "(I)V" } : Jvm.MethodName)) ∈ BIG := gdW7 13 (by decide +kernel) rfl
theorem bw_1454 : (Jvm.Cond.selects "TollClock$Text" ({ cls := "TollClock$Text", name := "appendNumber", desc := "(I)V" } : Jvm.MethodName) ({ cls := "TollClock$Text", name := "appendNumber", desc := "(I)V" } : Jvm.MethodName)) ∈ BIG := gdW7 14 (by decide +kernel) rfl
theorem bw_1455 : (Jvm.Cond.code ({ cls := "TollClock$Text", name := "appendNumber", desc := "(I)V" } : Jvm.MethodName) prog_11_method_5_code (3 : Nat) (Option.none : Option Jvm.ClassFile.FieldType)) ∈ BIG := gdW7 15 (by decide +kernel) rfl
theorem bw_1459 : (Jvm.Cond.methodLink "TollClockLaw" (186 : Nat) ({ cls := "TollClock", name := "charAt", desc := "(I)C" } : Jvm.MethodName)) ∈ BIG := gdW7 19 (by decide +kernel) rfl
theorem bw_1460 : (Jvm.Cond.instanceMethod ({ cls := "TollClock", name := "charAt", desc := "(I)C" } : Jvm.MethodName)) ∈ BIG := gdW7 20 (by decide +kernel) rfl
theorem bw_1461 : (Jvm.Cond.selects "TollClock" ({ cls := "TollClock", name := "charAt", desc := "(I)C" } : Jvm.MethodName) ({ cls := "TollClock", name := "charAt", desc := "(I)C" } : Jvm.MethodName)) ∈ BIG := gdW7 21 (by decide +kernel) rfl
theorem bw_1462 : (Jvm.Cond.code ({ cls := "TollClock", name := "charAt", desc := "(I)C" } : Jvm.MethodName) prog_1_method_91_code (2 : Nat) (Option.some Jvm.ClassFile.FieldType.char)) ∈ BIG := gdW7 22 (by decide +kernel) rfl
theorem bw_1464 : (Jvm.Cond.methodLink "TollClock" (449 : Nat) ({ cls := "TollClock$Text", name := "signAt", desc := "(I)C" } : Jvm.MethodName)) ∈ BIG := gdW7 24 (by decide +kernel) rfl
theorem bw_1468 : (Jvm.Cond.methodLink "TollClockLaw" (189 : Nat) ({ cls := "TollClock", name := "run", desc := "()I" } : Jvm.MethodName)) ∈ BIG := gdW7 28 (by decide +kernel) rfl
theorem bw_1469 : (Jvm.Cond.instanceMethod ({ cls := "TollClock", name := "run", desc := "()I" } : Jvm.MethodName)) ∈ BIG := gdW7 29 (by decide +kernel) rfl
theorem bw_1470 : (Jvm.Cond.selects "TollClock" ({ cls := "TollClock", name := "run", desc := "()I" } : Jvm.MethodName) ({ cls := "TollClock", name := "run", desc := "()I" } : Jvm.MethodName)) ∈ BIG := gdW7 30 (by decide +kernel) rfl
theorem bw_1471 : (Jvm.Cond.code ({ cls := "TollClock", name := "run", desc := "()I" } : Jvm.MethodName) prog_1_method_96_code (3 : Nat) (Option.some Jvm.ClassFile.FieldType.int)) ∈ BIG := gdW7 31 (by decide +kernel) rfl
theorem bw_1472 : (Jvm.Cond.methodLink "TollClock" (463 : Nat) ({ cls := "TollClock$Program", name := "parse", desc := "(LTollClock$Text;)I" } : Jvm.MethodName)) ∈ BIG := gdW7 32 (by decide +kernel) rfl
theorem bw_1473 : (Jvm.Cond.instanceMethod ({ cls := "TollClock$Program", name := "parse", desc := "(LTollClock$Text;)I" } : Jvm.MethodName)) ∈ BIG := gdW7 33 (by decide +kernel) rfl
theorem bw_1474 : (Jvm.Cond.selects "TollClock$Program" ({ cls := "TollClock$Program", name := "parse", desc := "(LTollClock$Text;)I" } : Jvm.MethodName) ({ cls := "TollClock$Program", name := "parse", desc := "(LTollClock$Text;)I" } : Jvm.MethodName)) ∈ BIG := gdW7 34 (by decide +kernel) rfl
theorem bw_1475 : (Jvm.Cond.code ({ cls := "TollClock$Program", name := "parse", desc := "(LTollClock$Text;)I" } : Jvm.MethodName) prog_8_method_2_code (4 : Nat) (Option.some Jvm.ClassFile.FieldType.int)) ∈ BIG := gdW7 35 (by decide +kernel) rfl
theorem bw_1476 : (Jvm.Cond.methodLink "TollClock$Program" (32 : Nat) ({ cls := "TollClock$Program", name := "readCommand", desc := "(LTollClock$Text;)Z" } : Jvm.MethodName)) ∈ BIG := gdW7 36 (by decide +kernel) rfl
theorem bw_1478 : (Jvm.Cond.instanceMethod ({ cls := "TollClock$Program", name := "readCommand", desc := "(LTollClock$Text;)Z" } : Jvm.MethodName)) ∈ BIG := gdW7 38 (by decide +kernel) rfl
theorem bw_1479 : (Jvm.Cond.code ({ cls := "TollClock$Program", name := "readCommand", desc := "(LTollClock$Text;)Z" } : Jvm.MethodName) prog_8_method_3_code (4 : Nat) (Option.some Jvm.ClassFile.FieldType.boolean)) ∈ BIG := gdW7 39 (by decide +kernel) rfl
theorem bw_1480 : (Jvm.Cond.methodLink "TollClock$Program" (45 : Nat) ({ cls := "TollClock$Program", name := "readVerb", desc := "(LTollClock$Text;)I" } : Jvm.MethodName)) ∈ BIG := gdW7 40 (by decide +kernel) rfl
theorem bw_1482 : (Jvm.Cond.instanceMethod ({ cls := "TollClock$Program", name := "readVerb", desc := "(LTollClock$Text;)I" } : Jvm.MethodName)) ∈ BIG := gdW7 42 (by decide +kernel) rfl
theorem bw_1483 : (Jvm.Cond.code ({ cls := "TollClock$Program", name := "readVerb", desc := "(LTollClock$Text;)I" } : Jvm.MethodName) prog_8_method_4_code (6 : Nat) (Option.some Jvm.ClassFile.FieldType.int)) ∈ BIG := gdW7 43 (by decide +kernel) rfl
theorem bw_1484 : (Jvm.Cond.methodLink "TollClock$Program" (53 : Nat) ({ cls := "TollClock$Program", name := "wordOf", desc := "(I)Ljava/lang/String;" } : Jvm.MethodName)) ∈ BIG := gdW7 44 (by decide +kernel) rfl
theorem bw_1485 : (Jvm.Cond.static ({ cls := "TollClock$Program", name := "wordOf", desc := "(I)Ljava/lang/String;" } : Jvm.MethodName)) ∈ BIG := gdW7 45 (by decide +kernel) rfl
theorem bw_1486 : (Jvm.Cond.code ({ cls := "TollClock$Program", name := "wordOf", desc := "(I)Ljava/lang/String;" } : Jvm.MethodName) prog_8_method_5_code (1 : Nat) (Option.some (Jvm.ClassFile.FieldType.object "java/lang/String"))) ∈ BIG := gdW7 46 (by decide +kernel) rfl
theorem bw_1494 : (Jvm.Cond.methodLink "TollClock$Program" (57 : Nat) ({ cls := "TollClock$Program", name := "countCommon", desc := "(LTollClock$Text;Ljava/lang/String;)I" } : Jvm.MethodName)) ∈ BIG := gdW7 54 (by decide +kernel) rfl
theorem bw_1496 : (Jvm.Cond.instanceMethod ({ cls := "TollClock$Program", name := "countCommon", desc := "(LTollClock$Text;Ljava/lang/String;)I" } : Jvm.MethodName)) ∈ BIG := gdW7 56 (by decide +kernel) rfl
theorem bw_1497 : (Jvm.Cond.code ({ cls := "TollClock$Program", name := "countCommon", desc := "(LTollClock$Text;Ljava/lang/String;)I" } : Jvm.MethodName) prog_8_method_6_code (4 : Nat) (Option.some Jvm.ClassFile.FieldType.int)) ∈ BIG := gdW7 57 (by decide +kernel) rfl
theorem bw_1508 : (Jvm.Cond.methodLink "TollClock$Program" (86 : Nat) ({ cls := "TollClock$Text", name := "signAt", desc := "(I)C" } : Jvm.MethodName)) ∈ BIG := gdW7 68 (by decide +kernel) rfl
theorem bw_1547 : (Jvm.Cond.methodLink "TollClock$Program" (66 : Nat) ({ cls := "java/lang/Math", name := "max", desc := "(II)I" } : Jvm.MethodName)) ∈ BIG := gdW7 107 (by decide +kernel) rfl
theorem bw_1548 : (Jvm.Cond.methodLink "TollClock$Program" (49 : Nat) ({ cls := "TollClock$Program", name := "readValues", desc := "(LTollClock$Text;I)Z" } : Jvm.MethodName)) ∈ BIG := gdW7 108 (by decide +kernel) rfl
theorem bw_1550 : (Jvm.Cond.instanceMethod ({ cls := "TollClock$Program", name := "readValues", desc := "(LTollClock$Text;I)Z" } : Jvm.MethodName)) ∈ BIG := gdW7 110 (by decide +kernel) rfl
theorem bw_1551 : (Jvm.Cond.code ({ cls := "TollClock$Program", name := "readValues", desc := "(LTollClock$Text;I)Z" } : Jvm.MethodName) prog_8_method_7_code (3 : Nat) (Option.some Jvm.ClassFile.FieldType.boolean)) ∈ BIG := gdW7 111 (by decide +kernel) rfl
theorem bw_1552 : (Jvm.Cond.methodLink "TollClock$Program" (93 : Nat) ({ cls := "TollClock$Program", name := "readServe", desc := "(LTollClock$Text;)Z" } : Jvm.MethodName)) ∈ BIG := gdW7 112 (by decide +kernel) rfl
theorem bw_1554 : (Jvm.Cond.instanceMethod ({ cls := "TollClock$Program", name := "readServe", desc := "(LTollClock$Text;)Z" } : Jvm.MethodName)) ∈ BIG := gdW7 114 (by decide +kernel) rfl
theorem bw_1555 : (Jvm.Cond.code ({ cls := "TollClock$Program", name := "readServe", desc := "(LTollClock$Text;)Z" } : Jvm.MethodName) prog_8_method_8_code (2 : Nat) (Option.some Jvm.ClassFile.FieldType.boolean)) ∈ BIG := gdW7 115 (by decide +kernel) rfl
theorem bw_1556 : (Jvm.Cond.methodLink "TollClock$Program" (99 : Nat) ({ cls := "TollClock$Program", name := "readFirst", desc := "(LTollClock$Text;I)Z" } : Jvm.MethodName)) ∈ BIG := gdW7 116 (by decide +kernel) rfl
theorem bw_1558 : (Jvm.Cond.instanceMethod ({ cls := "TollClock$Program", name := "readFirst", desc := "(LTollClock$Text;I)Z" } : Jvm.MethodName)) ∈ BIG := gdW7 118 (by decide +kernel) rfl
theorem bw_1559 : (Jvm.Cond.code ({ cls := "TollClock$Program", name := "readFirst", desc := "(LTollClock$Text;I)Z" } : Jvm.MethodName) prog_8_method_10_code (3 : Nat) (Option.some Jvm.ClassFile.FieldType.boolean)) ∈ BIG := gdW7 119 (by decide +kernel) rfl
theorem bw_1560 : (Jvm.Cond.methodLink "TollClock$Program" (108 : Nat) ({ cls := "TollClock$Program", name := "readNumber", desc := "(LTollClock$Text;I)I" } : Jvm.MethodName)) ∈ BIG := gdW7 120 (by decide +kernel) rfl
theorem bw_1562 : (Jvm.Cond.instanceMethod ({ cls := "TollClock$Program", name := "readNumber", desc := "(LTollClock$Text;I)I" } : Jvm.MethodName)) ∈ BIG := gdW7 122 (by decide +kernel) rfl
theorem bw_1563 : (Jvm.Cond.code ({ cls := "TollClock$Program", name := "readNumber", desc := "(LTollClock$Text;I)I" } : Jvm.MethodName) prog_8_method_12_code (6 : Nat) (Option.some Jvm.ClassFile.FieldType.int)) ∈ BIG := gdW7 123 (by decide +kernel) rfl
theorem bw_1564 : (Jvm.Cond.methodLink "TollClock$Program" (41 : Nat) ({ cls := "TollClock$Program", name := "readSign", desc := "(LTollClock$Text;C)Z" } : Jvm.MethodName)) ∈ BIG := gdW7 124 (by decide +kernel) rfl
theorem bw_1566 : (Jvm.Cond.instanceMethod ({ cls := "TollClock$Program", name := "readSign", desc := "(LTollClock$Text;C)Z" } : Jvm.MethodName)) ∈ BIG := gdW7 126 (by decide +kernel) rfl
theorem bw_1567 : (Jvm.Cond.code ({ cls := "TollClock$Program", name := "readSign", desc := "(LTollClock$Text;C)Z" } : Jvm.MethodName) prog_8_method_14_code (3 : Nat) (Option.some Jvm.ClassFile.FieldType.boolean)) ∈ BIG := gdW7 127 (by decide +kernel) rfl
theorem bw_1568 : (Jvm.Cond.methodLink "TollClock$Program" (102 : Nat) ({ cls := "TollClock$Program", name := "readSecond", desc := "(LTollClock$Text;I)Z" } : Jvm.MethodName)) ∈ BIG := gdW7 128 (by decide +kernel) rfl
theorem bw_1570 : (Jvm.Cond.instanceMethod ({ cls := "TollClock$Program", name := "readSecond", desc := "(LTollClock$Text;I)Z" } : Jvm.MethodName)) ∈ BIG := gdW7 130 (by decide +kernel) rfl
theorem bw_1571 : (Jvm.Cond.code ({ cls := "TollClock$Program", name := "readSecond", desc := "(LTollClock$Text;I)Z" } : Jvm.MethodName) prog_8_method_11_code (3 : Nat) (Option.some Jvm.ClassFile.FieldType.boolean)) ∈ BIG := gdW7 131 (by decide +kernel) rfl
theorem bw_1572 : (Jvm.Cond.methodLink "TollClock$Program" (105 : Nat) ({ cls := "TollClock$Program", name := "readWay", desc := "(LTollClock$Text;)Z" } : Jvm.MethodName)) ∈ BIG := gdW7 132 (by decide +kernel) rfl
theorem bw_1574 : (Jvm.Cond.instanceMethod ({ cls := "TollClock$Program", name := "readWay", desc := "(LTollClock$Text;)Z" } : Jvm.MethodName)) ∈ BIG := gdW7 134 (by decide +kernel) rfl
theorem bw_1575 : (Jvm.Cond.code ({ cls := "TollClock$Program", name := "readWay", desc := "(LTollClock$Text;)Z" } : Jvm.MethodName) prog_8_method_13_code (3 : Nat) (Option.some Jvm.ClassFile.FieldType.boolean)) ∈ BIG := gdW7 135 (by decide +kernel) rfl
theorem bw_1576 : (Jvm.Cond.methodLink "TollClock$Program" (112 : Nat) ({ cls := "TollClock$Rules", name := "placeOfWay", desc := "(C)I" } : Jvm.MethodName)) ∈ BIG := gdW7 136 (by decide +kernel) rfl
theorem bw_1577 : (Jvm.Cond.methodLink "TollClock$Program" (96 : Nat) ({ cls := "TollClock$Program", name := "readDays", desc := "(LTollClock$Text;)Z" } : Jvm.MethodName)) ∈ BIG := gdW7 137 (by decide +kernel) rfl
theorem bw_1579 : (Jvm.Cond.instanceMethod ({ cls := "TollClock$Program", name := "readDays", desc := "(LTollClock$Text;)Z" } : Jvm.MethodName)) ∈ BIG := gdW7 139 (by decide +kernel) rfl
theorem bw_1580 : (Jvm.Cond.code ({ cls := "TollClock$Program", name := "readDays", desc := "(LTollClock$Text;)Z" } : Jvm.MethodName) prog_8_method_9_code (2 : Nat) (Option.some Jvm.ClassFile.FieldType.boolean)) ∈ BIG := gdW7 140 (by decide +kernel) rfl
theorem bw_1582 : (Jvm.Cond.methodLink "TollClock" (470 : Nat) ({ cls := "TollClock", name := "execute", desc := "(I)I" } : Jvm.MethodName)) ∈ BIG := gdW7 142 (by decide +kernel) rfl
theorem bw_1584 : (Jvm.Cond.instanceMethod ({ cls := "TollClock", name := "execute", desc := "(I)I" } : Jvm.MethodName)) ∈ BIG := gdW7 144 (by decide +kernel) rfl
theorem bw_1585 : (Jvm.Cond.code ({ cls := "TollClock", name := "execute", desc := "(I)I" } : Jvm.MethodName) prog_1_method_100_code (4 : Nat) (Option.some Jvm.ClassFile.FieldType.int)) ∈ BIG := gdW7 145 (by decide +kernel) rfl
theorem bw_1586 : (Jvm.Cond.methodLink "TollClock" (473 : Nat) ({ cls := "TollClock", name := "takeBack", desc := "()V" } : Jvm.MethodName)) ∈ BIG := gdW7 146 (by decide +kernel) rfl
theorem bw_1588 : (Jvm.Cond.instanceMethod ({ cls := "TollClock", name := "takeBack", desc := "()V" } : Jvm.MethodName)) ∈ BIG := gdW7 148 (by decide +kernel) rfl
theorem bw_1589 : (Jvm.Cond.code ({ cls := "TollClock", name := "takeBack", desc := "()V" } : Jvm.MethodName) prog_1_method_102_code (2 : Nat) (Option.none : Option Jvm.ClassFile.FieldType)) ∈ BIG := gdW7 149 (by decide +kernel) rfl
theorem bw_1594 : (Jvm.Cond.methodLink "TollClockLaw" (192 : Nat) ({ cls := "TollClock", name := "errorPosition", desc := "()I" } : Jvm.MethodName)) ∈ BIG := gdW7 154 (by decide +kernel) rfl
theorem bw_1595 : (Jvm.Cond.instanceMethod ({ cls := "TollClock", name := "errorPosition", desc := "()I" } : Jvm.MethodName)) ∈ BIG := gdW7 155 (by decide +kernel) rfl
theorem bw_1596 : (Jvm.Cond.selects "TollClock" ({ cls := "TollClock", name := "errorPosition", desc := "()I" } : Jvm.MethodName) ({ cls := "TollClock", name := "errorPosition", desc := "()I" } : Jvm.MethodName)) ∈ BIG := gdW7 156 (by decide +kernel) rfl
theorem bw_1597 : (Jvm.Cond.code ({ cls := "TollClock", name := "errorPosition", desc := "()I" } : Jvm.MethodName) prog_1_method_97_code (1 : Nat) (Option.some Jvm.ClassFile.FieldType.int)) ∈ BIG := gdW7 157 (by decide +kernel) rfl
theorem bw_1602 : (Jvm.Cond.methodLink "TollClockLaw" (195 : Nat) ({ cls := "TollClock", name := "failedCommand", desc := "()I" } : Jvm.MethodName)) ∈ BIG := gdW7 162 (by decide +kernel) rfl
theorem bw_1603 : (Jvm.Cond.instanceMethod ({ cls := "TollClock", name := "failedCommand", desc := "()I" } : Jvm.MethodName)) ∈ BIG := gdW7 163 (by decide +kernel) rfl
theorem bw_1604 : (Jvm.Cond.selects "TollClock" ({ cls := "TollClock", name := "failedCommand", desc := "()I" } : Jvm.MethodName) ({ cls := "TollClock", name := "failedCommand", desc := "()I" } : Jvm.MethodName)) ∈ BIG := gdW7 164 (by decide +kernel) rfl
theorem bw_1605 : (Jvm.Cond.code ({ cls := "TollClock", name := "failedCommand", desc := "()I" } : Jvm.MethodName) prog_1_method_98_code (1 : Nat) (Option.some Jvm.ClassFile.FieldType.int)) ∈ BIG := gdW7 165 (by decide +kernel) rfl
theorem bw_1610 : (Jvm.Cond.methodLink "TollClockLaw" (198 : Nat) ({ cls := "TollClock", name := "undo", desc := "()I" } : Jvm.MethodName)) ∈ BIG := gdW7 170 (by decide +kernel) rfl
theorem bw_1611 : (Jvm.Cond.instanceMethod ({ cls := "TollClock", name := "undo", desc := "()I" } : Jvm.MethodName)) ∈ BIG := gdW7 171 (by decide +kernel) rfl
theorem bw_1612 : (Jvm.Cond.selects "TollClock" ({ cls := "TollClock", name := "undo", desc := "()I" } : Jvm.MethodName) ({ cls := "TollClock", name := "undo", desc := "()I" } : Jvm.MethodName)) ∈ BIG := gdW7 172 (by decide +kernel) rfl
theorem bw_1613 : (Jvm.Cond.code ({ cls := "TollClock", name := "undo", desc := "()I" } : Jvm.MethodName) prog_1_method_99_code (1 : Nat) (Option.some Jvm.ClassFile.FieldType.int)) ∈ BIG := gdW7 173 (by decide +kernel) rfl
theorem bw_1615 : (Jvm.Cond.classLink "TollClockLaw" (202 : Nat) "TollClockModel") ∈ BIG := gdW7 175 (by decide +kernel) rfl
theorem bw_1616 : (Jvm.Cond.instantiable "TollClockModel" (19 : Nat)) ∈ BIG := gdW7 176 (by decide +kernel) rfl
theorem bw_1617 : (Jvm.Cond.methodLink "TollClockLaw" (204 : Nat) ({ cls := "TollClockModel", name := "<init>", desc := "()V" } : Jvm.MethodName)) ∈ BIG := gdW7 177 (by decide +kernel) rfl
theorem bw_1618 : (Jvm.Cond.instanceMethod ({ cls := "TollClockModel", name := "<init>", desc := "()V" } : Jvm.MethodName)) ∈ BIG := gdW7 178 (by decide +kernel) rfl
theorem bw_1619 : (Jvm.Cond.code ({ cls := "TollClockModel", name := "<init>", desc := "()V" } : Jvm.MethodName) prog_14_method_1_code (2 : Nat) (Option.none : Option Jvm.ClassFile.FieldType)) ∈ BIG := gdW7 179 (by decide +kernel) rfl
theorem bw_1621 : (Jvm.Cond.fieldLink "TollClockModel" (9 : Nat) "TollClockModel" "now" "[I") ∈ BIG := gdW7 181 (by decide +kernel) rfl
theorem bw_1622 : (Jvm.Cond.fieldLink "TollClockModel" (13 : Nat) "TollClockModel" "before" "[I") ∈ BIG := gdW7 182 (by decide +kernel) rfl
theorem bw_1623 : (Jvm.Cond.fieldLink "TollClockModel" (16 : Nat) "TollClockModel" "history" "[I") ∈ BIG := gdW7 183 (by decide +kernel) rfl
theorem bw_1624 : (Jvm.Cond.fieldLink "TollClockModel" (44 : Nat) "TollClockModel" "remembered" "I") ∈ BIG := gdW7 184 (by decide +kernel) rfl
theorem bw_1625 : (Jvm.Cond.fieldLink "TollClockModel" (47 : Nat) "TollClockModel" "isRunning" "Z") ∈ BIG := gdW7 185 (by decide +kernel) rfl
theorem bw_1626 : (Jvm.Cond.fieldLink "TollClockModel" (41 : Nat) "TollClockModel" "thrown" "I") ∈ BIG := gdW7 186 (by decide +kernel) rfl
theorem bw_1627 : (Jvm.Cond.fieldLink "TollClockModel" (19 : Nat) "TollClockModel" "text" "[I") ∈ BIG := gdW7 187 (by decide +kernel) rfl
theorem bw_1628 : (Jvm.Cond.fieldLink "TollClockModel" (59 : Nat) "TollClockModel" "typed" "I") ∈ BIG := gdW7 188 (by decide +kernel) rfl
theorem bw_1629 : (Jvm.Cond.fieldLink "TollClockModel" (22 : Nat) "TollClockModel" "line" "[I") ∈ BIG := gdW7 189 (by decide +kernel) rfl
theorem bw_1630 : (Jvm.Cond.fieldLink "TollClockModel" (99 : Nat) "TollClockModel" "lined" "I") ∈ BIG := gdW7 190 (by decide +kernel) rfl
theorem bw_1631 : (Jvm.Cond.fieldLink "TollClockModel" (25 : Nat) "TollClockModel" "errorAt" "I") ∈ BIG := gdW7 191 (by decide +kernel) rfl
theorem bw_1632 : (Jvm.Cond.fieldLink "TollClockModel" (29 : Nat) "TollClockModel" "failedAt" "I") ∈ BIG := gdW7 192 (by decide +kernel) rfl
theorem bw_1633 : (Jvm.Cond.fieldLink "TollClockModel" (32 : Nat) "TollClockModel" "name" "[I") ∈ BIG := gdW7 193 (by decide +kernel) rfl
theorem bw_1634 : (Jvm.Cond.fieldLink "TollClockModel" (70 : Nat) "TollClockModel" "nameSize" "I") ∈ BIG := gdW7 194 (by decide +kernel) rfl
theorem bw_1635 : (Jvm.Cond.fieldLink "TollClockModel" (35 : Nat) "TollClockModel" "commands" "[I") ∈ BIG := gdW7 195 (by decide +kernel) rfl
theorem bw_1636 : (Jvm.Cond.fieldLink "TollClockModel" (242 : Nat) "TollClockModel" "manyCommands" "I") ∈ BIG := gdW7 196 (by decide +kernel) rfl
theorem bw_1637 : (Jvm.Cond.fieldLink "TollClockModel" (38 : Nat) "TollClockModel" "dues" "[I") ∈ BIG := gdW7 197 (by decide +kernel) rfl
theorem bw_1638 : (Jvm.Cond.fieldLink "TollClockModel" (224 : Nat) "TollClockModel" "at" "I") ∈ BIG := gdW7 198 (by decide +kernel) rfl
theorem bw_1639 : (Jvm.Cond.fieldLink "TollClockModel" (221 : Nat) "TollClockModel" "isWrong" "Z") ∈ BIG := gdW7 199 (by decide +kernel) rfl
theorem bw_1679 : (Jvm.Cond.methodLink "TollClockLaw" (211 : Nat) ({ cls := "TollClockModel", name := "thrown", desc := "()I" } : Jvm.MethodName)) ∈ BIG := gdW7 239 (by decide +kernel) rfl
theorem bw_1680 : (Jvm.Cond.instanceMethod ({ cls := "TollClockModel", name := "thrown", desc := "()I" } : Jvm.MethodName)) ∈ BIG := gdW8 0 (by decide +kernel) rfl
theorem bw_1681 : (Jvm.Cond.selects "TollClockModel" ({ cls := "TollClockModel", name := "thrown", desc := "()I" } : Jvm.MethodName) ({ cls := "TollClockModel", name := "thrown", desc := "()I" } : Jvm.MethodName)) ∈ BIG := gdW8 1 (by decide +kernel) rfl
theorem bw_1682 : (Jvm.Cond.code ({ cls := "TollClockModel", name := "thrown", desc := "()I" } : Jvm.MethodName) prog_14_method_2_code (1 : Nat) (Option.some Jvm.ClassFile.FieldType.int)) ∈ BIG := gdW8 2 (by decide +kernel) rfl
theorem bw_1683 : (Jvm.Cond.methodLink "TollClockLaw" (411 : Nat) ({ cls := "TollClockModel", name := "undo", desc := "()I" } : Jvm.MethodName)) ∈ BIG := gdW8 3 (by decide +kernel) rfl
theorem bw_1684 : (Jvm.Cond.instanceMethod ({ cls := "TollClockModel", name := "undo", desc := "()I" } : Jvm.MethodName)) ∈ BIG := gdW8 4 (by decide +kernel) rfl
theorem bw_1685 : (Jvm.Cond.selects "TollClockModel" ({ cls := "TollClockModel", name := "undo", desc := "()I" } : Jvm.MethodName) ({ cls := "TollClockModel", name := "undo", desc := "()I" } : Jvm.MethodName)) ∈ BIG := gdW8 5 (by decide +kernel) rfl
theorem bw_1686 : (Jvm.Cond.code ({ cls := "TollClockModel", name := "undo", desc := "()I" } : Jvm.MethodName) prog_14_method_7_code (2 : Nat) (Option.some Jvm.ClassFile.FieldType.int)) ∈ BIG := gdW8 6 (by decide +kernel) rfl
theorem bw_1687 : (Jvm.Cond.methodLink "TollClockModel" (55 : Nat) ({ cls := "TollClockModel", name := "fails", desc := "(ZI)Z" } : Jvm.MethodName)) ∈ BIG := gdW8 7 (by decide +kernel) rfl
theorem bw_1689 : (Jvm.Cond.instanceMethod ({ cls := "TollClockModel", name := "fails", desc := "(ZI)Z" } : Jvm.MethodName)) ∈ BIG := gdW8 9 (by decide +kernel) rfl
theorem bw_1690 : (Jvm.Cond.code ({ cls := "TollClockModel", name := "fails", desc := "(ZI)Z" } : Jvm.MethodName) prog_14_method_4_code (3 : Nat) (Option.some Jvm.ClassFile.FieldType.boolean)) ∈ BIG := gdW8 10 (by decide +kernel) rfl
theorem bw_1691 : (Jvm.Cond.methodLink "TollClockLaw" (210 : Nat) ({ cls := "TollClockModel", name := "type", desc := "(C)I" } : Jvm.MethodName)) ∈ BIG := gdW8 11 (by decide +kernel) rfl
theorem bw_1692 : (Jvm.Cond.instanceMethod ({ cls := "TollClockModel", name := "type", desc := "(C)I" } : Jvm.MethodName)) ∈ BIG := gdW8 12 (by decide +kernel) rfl
theorem bw_1693 : (Jvm.Cond.selects "TollClockModel" ({ cls := "TollClockModel", name := "type", desc := "(C)I" } : Jvm.MethodName) ({ cls := "TollClockModel", name := "type", desc := "(C)I" } : Jvm.MethodName)) ∈ BIG := gdW8 13 (by decide +kernel) rfl
theorem bw_1694 : (Jvm.Cond.code ({ cls := "TollClockModel", name := "type", desc := "(C)I" } : Jvm.MethodName) prog_14_method_8_code (2 : Nat) (Option.some Jvm.ClassFile.FieldType.int)) ∈ BIG := gdW8 14 (by decide +kernel) rfl
theorem bw_1695 : (Jvm.Cond.methodLink "TollClockLaw" (217 : Nat) ({ cls := "TollClockModel", name := "addParty", desc := "()I" } : Jvm.MethodName)) ∈ BIG := gdW8 15 (by decide +kernel) rfl
theorem bw_1696 : (Jvm.Cond.instanceMethod ({ cls := "TollClockModel", name := "addParty", desc := "()I" } : Jvm.MethodName)) ∈ BIG := gdW8 16 (by decide +kernel) rfl
theorem bw_1697 : (Jvm.Cond.selects "TollClockModel" ({ cls := "TollClockModel", name := "addParty", desc := "()I" } : Jvm.MethodName) ({ cls := "TollClockModel", name := "addParty", desc := "()I" } : Jvm.MethodName)) ∈ BIG := gdW8 17 (by decide +kernel) rfl
theorem bw_1698 : (Jvm.Cond.code ({ cls := "TollClockModel", name := "addParty", desc := "()I" } : Jvm.MethodName) prog_14_method_14_code (4 : Nat) (Option.some Jvm.ClassFile.FieldType.int)) ∈ BIG := gdW8 18 (by decide +kernel) rfl
theorem bw_1699 : (Jvm.Cond.methodLink "TollClockModel" (85 : Nat) ({ cls := "TollClockModel", name := "readName", desc := "()Z" } : Jvm.MethodName)) ∈ BIG := gdW8 19 (by decide +kernel) rfl
theorem bw_1701 : (Jvm.Cond.instanceMethod ({ cls := "TollClockModel", name := "readName", desc := "()Z" } : Jvm.MethodName)) ∈ BIG := gdW8 21 (by decide +kernel) rfl
theorem bw_1702 : (Jvm.Cond.code ({ cls := "TollClockModel", name := "readName", desc := "()Z" } : Jvm.MethodName) prog_14_method_11_code (5 : Nat) (Option.some Jvm.ClassFile.FieldType.boolean)) ∈ BIG := gdW8 22 (by decide +kernel) rfl
theorem bw_1703 : (Jvm.Cond.methodLink "TollClockModel" (73 : Nat) ({ cls := "TollClockModel", name := "isHigh", desc := "(I)Z" } : Jvm.MethodName)) ∈ BIG := gdW8 23 (by decide +kernel) rfl
theorem bw_1704 : (Jvm.Cond.static ({ cls := "TollClockModel", name := "isHigh", desc := "(I)Z" } : Jvm.MethodName)) ∈ BIG := gdW8 24 (by decide +kernel) rfl
theorem bw_1705 : (Jvm.Cond.code ({ cls := "TollClockModel", name := "isHigh", desc := "(I)Z" } : Jvm.MethodName) prog_14_method_9_code (1 : Nat) (Option.some Jvm.ClassFile.FieldType.boolean)) ∈ BIG := gdW8 25 (by decide +kernel) rfl
theorem bw_1706 : (Jvm.Cond.constant "TollClockModel" (62 : Nat) (55296 : Int32)) ∈ BIG := gdW8 26 (by decide +kernel) rfl
theorem bw_1707 : (Jvm.Cond.constant "TollClockModel" (63 : Nat) (56319 : Int32)) ∈ BIG := gdW8 27 (by decide +kernel) rfl
theorem bw_1708 : (Jvm.Cond.methodLink "TollClockModel" (64 : Nat) ({ cls := "TollClockModel", name := "in", desc := "(III)Z" } : Jvm.MethodName)) ∈ BIG := gdW8 28 (by decide +kernel) rfl
theorem bw_1709 : (Jvm.Cond.static ({ cls := "TollClockModel", name := "in", desc := "(III)Z" } : Jvm.MethodName)) ∈ BIG := gdW8 29 (by decide +kernel) rfl
theorem bw_1710 : (Jvm.Cond.code ({ cls := "TollClockModel", name := "in", desc := "(III)Z" } : Jvm.MethodName) prog_14_method_3_code (3 : Nat) (Option.some Jvm.ClassFile.FieldType.boolean)) ∈ BIG := gdW8 30 (by decide +kernel) rfl
theorem bw_1711 : (Jvm.Cond.methodLink "TollClockModel" (77 : Nat) ({ cls := "TollClockModel", name := "isLow", desc := "(I)Z" } : Jvm.MethodName)) ∈ BIG := gdW8 31 (by decide +kernel) rfl
theorem bw_1712 : (Jvm.Cond.static ({ cls := "TollClockModel", name := "isLow", desc := "(I)Z" } : Jvm.MethodName)) ∈ BIG := gdW8 32 (by decide +kernel) rfl
theorem bw_1713 : (Jvm.Cond.code ({ cls := "TollClockModel", name := "isLow", desc := "(I)Z" } : Jvm.MethodName) prog_14_method_10_code (1 : Nat) (Option.some Jvm.ClassFile.FieldType.boolean)) ∈ BIG := gdW8 33 (by decide +kernel) rfl
theorem bw_1714 : (Jvm.Cond.constant "TollClockModel" (68 : Nat) (56320 : Int32)) ∈ BIG := gdW8 34 (by decide +kernel) rfl
theorem bw_1715 : (Jvm.Cond.constant "TollClockModel" (69 : Nat) (57343 : Int32)) ∈ BIG := gdW8 35 (by decide +kernel) rfl
theorem bw_1716 : (Jvm.Cond.constant "TollClockModel" (80 : Nat) (65536 : Int32)) ∈ BIG := gdW8 36 (by decide +kernel) rfl
theorem bw_1717 : (Jvm.Cond.methodLink "TollClockModel" (89 : Nat) ({ cls := "TollClockModel", name := "named", desc := "()I" } : Jvm.MethodName)) ∈ BIG := gdW8 37 (by decide +kernel) rfl
theorem bw_1719 : (Jvm.Cond.instanceMethod ({ cls := "TollClockModel", name := "named", desc := "()I" } : Jvm.MethodName)) ∈ BIG := gdW8 39 (by decide +kernel) rfl
theorem bw_1720 : (Jvm.Cond.code ({ cls := "TollClockModel", name := "named", desc := "()I" } : Jvm.MethodName) prog_14_method_13_code (4 : Nat) (Option.some Jvm.ClassFile.FieldType.int)) ∈ BIG := gdW8 40 (by decide +kernel) rfl
theorem bw_1721 : (Jvm.Cond.methodLink "TollClockModel" (81 : Nat) ({ cls := "TollClockModel", name := "nameAt", desc := "(I)I" } : Jvm.MethodName)) ∈ BIG := gdW8 41 (by decide +kernel) rfl
theorem bw_1722 : (Jvm.Cond.static ({ cls := "TollClockModel", name := "nameAt", desc := "(I)I" } : Jvm.MethodName)) ∈ BIG := gdW8 42 (by decide +kernel) rfl
theorem bw_1723 : (Jvm.Cond.code ({ cls := "TollClockModel", name := "nameAt", desc := "(I)I" } : Jvm.MethodName) prog_14_method_12_code (1 : Nat) (Option.some Jvm.ClassFile.FieldType.int)) ∈ BIG := gdW8 43 (by decide +kernel) rfl
theorem bw_1724 : (Jvm.Cond.methodLink "TollClockModel" (93 : Nat) ({ cls := "TollClockModel", name := "change", desc := "()V" } : Jvm.MethodName)) ∈ BIG := gdW8 44 (by decide +kernel) rfl
theorem bw_1726 : (Jvm.Cond.instanceMethod ({ cls := "TollClockModel", name := "change", desc := "()V" } : Jvm.MethodName)) ∈ BIG := gdW8 46 (by decide +kernel) rfl
theorem bw_1727 : (Jvm.Cond.code ({ cls := "TollClockModel", name := "change", desc := "()V" } : Jvm.MethodName) prog_14_method_6_code (1 : Nat) (Option.none : Option Jvm.ClassFile.FieldType)) ∈ BIG := gdW8 47 (by decide +kernel) rfl
theorem bw_1728 : (Jvm.Cond.methodLink "TollClockModel" (51 : Nat) ({ cls := "TollClockModel", name := "remember", desc := "([I)V" } : Jvm.MethodName)) ∈ BIG := gdW8 48 (by decide +kernel) rfl
theorem bw_1730 : (Jvm.Cond.instanceMethod ({ cls := "TollClockModel", name := "remember", desc := "([I)V" } : Jvm.MethodName)) ∈ BIG := gdW8 50 (by decide +kernel) rfl
theorem bw_1731 : (Jvm.Cond.code ({ cls := "TollClockModel", name := "remember", desc := "([I)V" } : Jvm.MethodName) prog_14_method_5_code (3 : Nat) (Option.none : Option Jvm.ClassFile.FieldType)) ∈ BIG := gdW8 51 (by decide +kernel) rfl
theorem bw_1732 : (Jvm.Cond.methodLink "TollClockLaw" (220 : Nat) ({ cls := "TollClockModel", name := "findParty", desc := "()I" } : Jvm.MethodName)) ∈ BIG := gdW8 52 (by decide +kernel) rfl
theorem bw_1733 : (Jvm.Cond.instanceMethod ({ cls := "TollClockModel", name := "findParty", desc := "()I" } : Jvm.MethodName)) ∈ BIG := gdW8 53 (by decide +kernel) rfl
theorem bw_1734 : (Jvm.Cond.selects "TollClockModel" ({ cls := "TollClockModel", name := "findParty", desc := "()I" } : Jvm.MethodName) ({ cls := "TollClockModel", name := "findParty", desc := "()I" } : Jvm.MethodName)) ∈ BIG := gdW8 54 (by decide +kernel) rfl
theorem bw_1735 : (Jvm.Cond.code ({ cls := "TollClockModel", name := "findParty", desc := "()I" } : Jvm.MethodName) prog_14_method_15_code (2 : Nat) (Option.some Jvm.ClassFile.FieldType.int)) ∈ BIG := gdW8 55 (by decide +kernel) rfl
theorem bw_1736 : (Jvm.Cond.methodLink "TollClockLaw" (224 : Nat) ({ cls := "TollClockModel", name := "parties", desc := "()I" } : Jvm.MethodName)) ∈ BIG := gdW8 56 (by decide +kernel) rfl
theorem bw_1737 : (Jvm.Cond.instanceMethod ({ cls := "TollClockModel", name := "parties", desc := "()I" } : Jvm.MethodName)) ∈ BIG := gdW8 57 (by decide +kernel) rfl
theorem bw_1738 : (Jvm.Cond.selects "TollClockModel" ({ cls := "TollClockModel", name := "parties", desc := "()I" } : Jvm.MethodName) ({ cls := "TollClockModel", name := "parties", desc := "()I" } : Jvm.MethodName)) ∈ BIG := gdW8 58 (by decide +kernel) rfl
theorem bw_1739 : (Jvm.Cond.code ({ cls := "TollClockModel", name := "parties", desc := "()I" } : Jvm.MethodName) prog_14_method_16_code (1 : Nat) (Option.some Jvm.ClassFile.FieldType.int)) ∈ BIG := gdW8 59 (by decide +kernel) rfl
theorem bw_1740 : (Jvm.Cond.methodLink "TollClockLaw" (228 : Nat) ({ cls := "TollClockModel", name := "nameLength", desc := "(I)I" } : Jvm.MethodName)) ∈ BIG := gdW8 60 (by decide +kernel) rfl
theorem bw_1741 : (Jvm.Cond.instanceMethod ({ cls := "TollClockModel", name := "nameLength", desc := "(I)I" } : Jvm.MethodName)) ∈ BIG := gdW8 61 (by decide +kernel) rfl
theorem bw_1742 : (Jvm.Cond.selects "TollClockModel" ({ cls := "TollClockModel", name := "nameLength", desc := "(I)I" } : Jvm.MethodName) ({ cls := "TollClockModel", name := "nameLength", desc := "(I)I" } : Jvm.MethodName)) ∈ BIG := gdW8 62 (by decide +kernel) rfl
theorem bw_1743 : (Jvm.Cond.code ({ cls := "TollClockModel", name := "nameLength", desc := "(I)I" } : Jvm.MethodName) prog_14_method_18_code (2 : Nat) (Option.some Jvm.ClassFile.FieldType.int)) ∈ BIG := gdW8 63 (by decide +kernel) rfl
theorem bw_1744 : (Jvm.Cond.methodLink "TollClockModel" (96 : Nat) ({ cls := "TollClockModel", name := "noParty", desc := "(I)Z" } : Jvm.MethodName)) ∈ BIG := gdW8 64 (by decide +kernel) rfl
theorem bw_1746 : (Jvm.Cond.instanceMethod ({ cls := "TollClockModel", name := "noParty", desc := "(I)Z" } : Jvm.MethodName)) ∈ BIG := gdW8 66 (by decide +kernel) rfl
theorem bw_1747 : (Jvm.Cond.code ({ cls := "TollClockModel", name := "noParty", desc := "(I)Z" } : Jvm.MethodName) prog_14_method_17_code (2 : Nat) (Option.some Jvm.ClassFile.FieldType.boolean)) ∈ BIG := gdW8 67 (by decide +kernel) rfl
theorem bw_1748 : (Jvm.Cond.methodLink "TollClockLaw" (232 : Nat) ({ cls := "TollClockModel", name := "nameCodePoint", desc := "(II)I" } : Jvm.MethodName)) ∈ BIG := gdW8 68 (by decide +kernel) rfl
theorem bw_1749 : (Jvm.Cond.instanceMethod ({ cls := "TollClockModel", name := "nameCodePoint", desc := "(II)I" } : Jvm.MethodName)) ∈ BIG := gdW8 69 (by decide +kernel) rfl
theorem bw_1750 : (Jvm.Cond.selects "TollClockModel" ({ cls := "TollClockModel", name := "nameCodePoint", desc := "(II)I" } : Jvm.MethodName) ({ cls := "TollClockModel", name := "nameCodePoint", desc := "(II)I" } : Jvm.MethodName)) ∈ BIG := gdW8 70 (by decide +kernel) rfl
theorem bw_1751 : (Jvm.Cond.code ({ cls := "TollClockModel", name := "nameCodePoint", desc := "(II)I" } : Jvm.MethodName) prog_14_method_19_code (3 : Nat) (Option.some Jvm.ClassFile.FieldType.int)) ∈ BIG := gdW8 71 (by decide +kernel) rfl
theorem bw_1752 : (Jvm.Cond.methodLink "TollClockLaw" (235 : Nat) ({ cls := "TollClockModel", name := "writeNameReversed", desc := "(I)I" } : Jvm.MethodName)) ∈ BIG := gdW8 72 (by decide +kernel) rfl
theorem bw_1753 : (Jvm.Cond.instanceMethod ({ cls := "TollClockModel", name := "writeNameReversed", desc := "(I)I" } : Jvm.MethodName)) ∈ BIG := gdW8 73 (by decide +kernel) rfl
theorem bw_1754 : (Jvm.Cond.selects "TollClockModel" ({ cls := "TollClockModel", name := "writeNameReversed", desc := "(I)I" } : Jvm.MethodName) ({ cls := "TollClockModel", name := "writeNameReversed", desc := "(I)I" } : Jvm.MethodName)) ∈ BIG := gdW8 74 (by decide +kernel) rfl
theorem bw_1755 : (Jvm.Cond.code ({ cls := "TollClockModel", name := "writeNameReversed", desc := "(I)I" } : Jvm.MethodName) prog_14_method_21_code (4 : Nat) (Option.some Jvm.ClassFile.FieldType.int)) ∈ BIG := gdW8 75 (by decide +kernel) rfl
theorem bw_1756 : (Jvm.Cond.methodLink "TollClockModel" (102 : Nat) ({ cls := "TollClockModel", name := "put", desc := "(I)V" } : Jvm.MethodName)) ∈ BIG := gdW8 76 (by decide +kernel) rfl
theorem bw_1758 : (Jvm.Cond.instanceMethod ({ cls := "TollClockModel", name := "put", desc := "(I)V" } : Jvm.MethodName)) ∈ BIG := gdW8 78 (by decide +kernel) rfl
theorem bw_1759 : (Jvm.Cond.code ({ cls := "TollClockModel", name := "put", desc := "(I)V" } : Jvm.MethodName) prog_14_method_20_code (2 : Nat) (Option.none : Option Jvm.ClassFile.FieldType)) ∈ BIG := gdW8 79 (by decide +kernel) rfl
theorem bw_1760 : (Jvm.Cond.methodLink "TollClockLaw" (239 : Nat) ({ cls := "TollClockModel", name := "today", desc := "()I" } : Jvm.MethodName)) ∈ BIG := gdW8 80 (by decide +kernel) rfl
theorem bw_1761 : (Jvm.Cond.instanceMethod ({ cls := "TollClockModel", name := "today", desc := "()I" } : Jvm.MethodName)) ∈ BIG := gdW8 81 (by decide +kernel) rfl
theorem bw_1762 : (Jvm.Cond.selects "TollClockModel" ({ cls := "TollClockModel", name := "today", desc := "()I" } : Jvm.MethodName) ({ cls := "TollClockModel", name := "today", desc := "()I" } : Jvm.MethodName)) ∈ BIG := gdW8 82 (by decide +kernel) rfl
theorem bw_1763 : (Jvm.Cond.code ({ cls := "TollClockModel", name := "today", desc := "()I" } : Jvm.MethodName) prog_14_method_22_code (1 : Nat) (Option.some Jvm.ClassFile.FieldType.int)) ∈ BIG := gdW8 83 (by decide +kernel) rfl
theorem bw_1764 : (Jvm.Cond.methodLink "TollClockLaw" (242 : Nat) ({ cls := "TollClockModel", name := "advance", desc := "(I)I" } : Jvm.MethodName)) ∈ BIG := gdW8 84 (by decide +kernel) rfl
theorem bw_1765 : (Jvm.Cond.instanceMethod ({ cls := "TollClockModel", name := "advance", desc := "(I)I" } : Jvm.MethodName)) ∈ BIG := gdW8 85 (by decide +kernel) rfl
theorem bw_1766 : (Jvm.Cond.selects "TollClockModel" ({ cls := "TollClockModel", name := "advance", desc := "(I)I" } : Jvm.MethodName) ({ cls := "TollClockModel", name := "advance", desc := "(I)I" } : Jvm.MethodName)) ∈ BIG := gdW8 86 (by decide +kernel) rfl
theorem bw_1767 : (Jvm.Cond.code ({ cls := "TollClockModel", name := "advance", desc := "(I)I" } : Jvm.MethodName) prog_14_method_23_code (2 : Nat) (Option.some Jvm.ClassFile.FieldType.int)) ∈ BIG := gdW8 87 (by decide +kernel) rfl
theorem bw_1768 : (Jvm.Cond.methodLink "TollClockLaw" (245 : Nat) ({ cls := "TollClockModel", name := "weekday", desc := "(I)I" } : Jvm.MethodName)) ∈ BIG := gdW8 88 (by decide +kernel) rfl
theorem bw_1769 : (Jvm.Cond.instanceMethod ({ cls := "TollClockModel", name := "weekday", desc := "(I)I" } : Jvm.MethodName)) ∈ BIG := gdW8 89 (by decide +kernel) rfl
theorem bw_1770 : (Jvm.Cond.selects "TollClockModel" ({ cls := "TollClockModel", name := "weekday", desc := "(I)I" } : Jvm.MethodName) ({ cls := "TollClockModel", name := "weekday", desc := "(I)I" } : Jvm.MethodName)) ∈ BIG := gdW8 90 (by decide +kernel) rfl
theorem bw_1771 : (Jvm.Cond.code ({ cls := "TollClockModel", name := "weekday", desc := "(I)I" } : Jvm.MethodName) prog_14_method_25_code (2 : Nat) (Option.some Jvm.ClassFile.FieldType.int)) ∈ BIG := gdW8 91 (by decide +kernel) rfl
theorem bw_1772 : (Jvm.Cond.methodLink "TollClockModel" (106 : Nat) ({ cls := "TollClockModel", name := "isDay", desc := "(I)Z" } : Jvm.MethodName)) ∈ BIG := gdW8 92 (by decide +kernel) rfl
theorem bw_1773 : (Jvm.Cond.static ({ cls := "TollClockModel", name := "isDay", desc := "(I)Z" } : Jvm.MethodName)) ∈ BIG := gdW8 93 (by decide +kernel) rfl
theorem bw_1774 : (Jvm.Cond.code ({ cls := "TollClockModel", name := "isDay", desc := "(I)Z" } : Jvm.MethodName) prog_14_method_24_code (1 : Nat) (Option.some Jvm.ClassFile.FieldType.boolean)) ∈ BIG := gdW8 94 (by decide +kernel) rfl
theorem bw_1775 : (Jvm.Cond.methodLink "TollClockLaw" (248 : Nat) ({ cls := "TollClockModel", name := "isCourtDay", desc := "(I)Z" } : Jvm.MethodName)) ∈ BIG := gdW8 95 (by decide +kernel) rfl
theorem bw_1776 : (Jvm.Cond.instanceMethod ({ cls := "TollClockModel", name := "isCourtDay", desc := "(I)Z" } : Jvm.MethodName)) ∈ BIG := gdW8 96 (by decide +kernel) rfl
theorem bw_1777 : (Jvm.Cond.selects "TollClockModel" ({ cls := "TollClockModel", name := "isCourtDay", desc := "(I)Z" } : Jvm.MethodName) ({ cls := "TollClockModel", name := "isCourtDay", desc := "(I)Z" } : Jvm.MethodName)) ∈ BIG := gdW8 97 (by decide +kernel) rfl
theorem bw_1778 : (Jvm.Cond.code ({ cls := "TollClockModel", name := "isCourtDay", desc := "(I)Z" } : Jvm.MethodName) prog_14_method_28_code (2 : Nat) (Option.some Jvm.ClassFile.FieldType.boolean)) ∈ BIG := gdW8 98 (by decide +kernel) rfl
theorem bw_1779 : (Jvm.Cond.methodLink "TollClockModel" (112 : Nat) ({ cls := "TollClockModel", name := "isCourt", desc := "(I)Z" } : Jvm.MethodName)) ∈ BIG := gdW8 99 (by decide +kernel) rfl
theorem bw_1781 : (Jvm.Cond.instanceMethod ({ cls := "TollClockModel", name := "isCourt", desc := "(I)Z" } : Jvm.MethodName)) ∈ BIG := gdW8 101 (by decide +kernel) rfl
theorem bw_1782 : (Jvm.Cond.code ({ cls := "TollClockModel", name := "isCourt", desc := "(I)Z" } : Jvm.MethodName) prog_14_method_27_code (2 : Nat) (Option.some Jvm.ClassFile.FieldType.boolean)) ∈ BIG := gdW8 102 (by decide +kernel) rfl
theorem bw_1783 : (Jvm.Cond.methodLink "TollClockModel" (109 : Nat) ({ cls := "TollClockModel", name := "holidayAt", desc := "(I)I" } : Jvm.MethodName)) ∈ BIG := gdW8 103 (by decide +kernel) rfl
theorem bw_1785 : (Jvm.Cond.instanceMethod ({ cls := "TollClockModel", name := "holidayAt", desc := "(I)I" } : Jvm.MethodName)) ∈ BIG := gdW8 105 (by decide +kernel) rfl
theorem bw_1786 : (Jvm.Cond.code ({ cls := "TollClockModel", name := "holidayAt", desc := "(I)I" } : Jvm.MethodName) prog_14_method_26_code (3 : Nat) (Option.some Jvm.ClassFile.FieldType.int)) ∈ BIG := gdW8 106 (by decide +kernel) rfl
theorem bw_1787 : (Jvm.Cond.methodLink "TollClockLaw" (251 : Nat) ({ cls := "TollClockModel", name := "addHoliday", desc := "(I)I" } : Jvm.MethodName)) ∈ BIG := gdW8 107 (by decide +kernel) rfl
theorem bw_1788 : (Jvm.Cond.instanceMethod ({ cls := "TollClockModel", name := "addHoliday", desc := "(I)I" } : Jvm.MethodName)) ∈ BIG := gdW8 108 (by decide +kernel) rfl
theorem bw_1789 : (Jvm.Cond.selects "TollClockModel" ({ cls := "TollClockModel", name := "addHoliday", desc := "(I)I" } : Jvm.MethodName) ({ cls := "TollClockModel", name := "addHoliday", desc := "(I)I" } : Jvm.MethodName)) ∈ BIG := gdW8 109 (by decide +kernel) rfl
theorem bw_1790 : (Jvm.Cond.code ({ cls := "TollClockModel", name := "addHoliday", desc := "(I)I" } : Jvm.MethodName) prog_14_method_29_code (2 : Nat) (Option.some Jvm.ClassFile.FieldType.int)) ∈ BIG := gdW8 110 (by decide +kernel) rfl
theorem bw_1791 : (Jvm.Cond.methodLink "TollClockLaw" (254 : Nat) ({ cls := "TollClockModel", name := "removeHoliday", desc := "(I)I" } : Jvm.MethodName)) ∈ BIG := gdW8 111 (by decide +kernel) rfl
theorem bw_1792 : (Jvm.Cond.instanceMethod ({ cls := "TollClockModel", name := "removeHoliday", desc := "(I)I" } : Jvm.MethodName)) ∈ BIG := gdW8 112 (by decide +kernel) rfl
theorem bw_1793 : (Jvm.Cond.selects "TollClockModel" ({ cls := "TollClockModel", name := "removeHoliday", desc := "(I)I" } : Jvm.MethodName) ({ cls := "TollClockModel", name := "removeHoliday", desc := "(I)I" } : Jvm.MethodName)) ∈ BIG := gdW8 113 (by decide +kernel) rfl
theorem bw_1794 : (Jvm.Cond.code ({ cls := "TollClockModel", name := "removeHoliday", desc := "(I)I" } : Jvm.MethodName) prog_14_method_30_code (3 : Nat) (Option.some Jvm.ClassFile.FieldType.int)) ∈ BIG := gdW8 114 (by decide +kernel) rfl
theorem bw_1795 : (Jvm.Cond.methodLink "TollClockLaw" (257 : Nat) ({ cls := "TollClockModel", name := "courtDays", desc := "(II)I" } : Jvm.MethodName)) ∈ BIG := gdW8 115 (by decide +kernel) rfl
theorem bw_1796 : (Jvm.Cond.instanceMethod ({ cls := "TollClockModel", name := "courtDays", desc := "(II)I" } : Jvm.MethodName)) ∈ BIG := gdW8 116 (by decide +kernel) rfl
theorem bw_1797 : (Jvm.Cond.selects "TollClockModel" ({ cls := "TollClockModel", name := "courtDays", desc := "(II)I" } : Jvm.MethodName) ({ cls := "TollClockModel", name := "courtDays", desc := "(II)I" } : Jvm.MethodName)) ∈ BIG := gdW8 117 (by decide +kernel) rfl
theorem bw_1798 : (Jvm.Cond.code ({ cls := "TollClockModel", name := "courtDays", desc := "(II)I" } : Jvm.MethodName) prog_14_method_31_code (5 : Nat) (Option.some Jvm.ClassFile.FieldType.int)) ∈ BIG := gdW8 118 (by decide +kernel) rfl
theorem bw_1799 : (Jvm.Cond.methodLink "TollClockLaw" (260 : Nat) ({ cls := "TollClockModel", name := "courtDaysByMarking", desc := "(II)I" } : Jvm.MethodName)) ∈ BIG := gdW8 119 (by decide +kernel) rfl
theorem bw_1800 : (Jvm.Cond.instanceMethod ({ cls := "TollClockModel", name := "courtDaysByMarking", desc := "(II)I" } : Jvm.MethodName)) ∈ BIG := gdW8 120 (by decide +kernel) rfl
theorem bw_1801 : (Jvm.Cond.selects "TollClockModel" ({ cls := "TollClockModel", name := "courtDaysByMarking", desc := "(II)I" } : Jvm.MethodName) ({ cls := "TollClockModel", name := "courtDaysByMarking", desc := "(II)I" } : Jvm.MethodName)) ∈ BIG := gdW8 121 (by decide +kernel) rfl
theorem bw_1802 : (Jvm.Cond.code ({ cls := "TollClockModel", name := "courtDaysByMarking", desc := "(II)I" } : Jvm.MethodName) prog_14_method_32_code (3 : Nat) (Option.some Jvm.ClassFile.FieldType.int)) ∈ BIG := gdW8 122 (by decide +kernel) rfl
theorem bw_1803 : (Jvm.Cond.methodLink "TollClockModel" (115 : Nat) ({ cls := "TollClockModel", name := "courtDays", desc := "(II)I" } : Jvm.MethodName)) ∈ BIG := gdW8 123 (by decide +kernel) rfl
theorem bw_1804 : (Jvm.Cond.methodLink "TollClockLaw" (264 : Nat) ({ cls := "TollClockModel", name := "setRule", desc := "(IIZ)I" } : Jvm.MethodName)) ∈ BIG := gdW8 124 (by decide +kernel) rfl
theorem bw_1805 : (Jvm.Cond.instanceMethod ({ cls := "TollClockModel", name := "setRule", desc := "(IIZ)I" } : Jvm.MethodName)) ∈ BIG := gdW8 125 (by decide +kernel) rfl
theorem bw_1806 : (Jvm.Cond.selects "TollClockModel" ({ cls := "TollClockModel", name := "setRule", desc := "(IIZ)I" } : Jvm.MethodName) ({ cls := "TollClockModel", name := "setRule", desc := "(IIZ)I" } : Jvm.MethodName)) ∈ BIG := gdW8 126 (by decide +kernel) rfl
theorem bw_1807 : (Jvm.Cond.code ({ cls := "TollClockModel", name := "setRule", desc := "(IIZ)I" } : Jvm.MethodName) prog_14_method_34_code (5 : Nat) (Option.some Jvm.ClassFile.FieldType.int)) ∈ BIG := gdW8 127 (by decide +kernel) rfl
theorem bw_1808 : (Jvm.Cond.methodLink "TollClockModel" (119 : Nat) ({ cls := "TollClockModel", name := "noRule", desc := "(I)Z" } : Jvm.MethodName)) ∈ BIG := gdW8 128 (by decide +kernel) rfl
theorem bw_1809 : (Jvm.Cond.static ({ cls := "TollClockModel", name := "noRule", desc := "(I)Z" } : Jvm.MethodName)) ∈ BIG := gdW8 129 (by decide +kernel) rfl
theorem bw_1810 : (Jvm.Cond.code ({ cls := "TollClockModel", name := "noRule", desc := "(I)Z" } : Jvm.MethodName) prog_14_method_33_code (1 : Nat) (Option.some Jvm.ClassFile.FieldType.boolean)) ∈ BIG := gdW8 130 (by decide +kernel) rfl
theorem bw_1811 : (Jvm.Cond.methodLink "TollClockLaw" (267 : Nat) ({ cls := "TollClockModel", name := "ruleLength", desc := "(I)I" } : Jvm.MethodName)) ∈ BIG := gdW8 131 (by decide +kernel) rfl
theorem bw_1812 : (Jvm.Cond.instanceMethod ({ cls := "TollClockModel", name := "ruleLength", desc := "(I)I" } : Jvm.MethodName)) ∈ BIG := gdW8 132 (by decide +kernel) rfl
theorem bw_1813 : (Jvm.Cond.selects "TollClockModel" ({ cls := "TollClockModel", name := "ruleLength", desc := "(I)I" } : Jvm.MethodName) ({ cls := "TollClockModel", name := "ruleLength", desc := "(I)I" } : Jvm.MethodName)) ∈ BIG := gdW8 133 (by decide +kernel) rfl
theorem bw_1814 : (Jvm.Cond.code ({ cls := "TollClockModel", name := "ruleLength", desc := "(I)I" } : Jvm.MethodName) prog_14_method_35_code (2 : Nat) (Option.some Jvm.ClassFile.FieldType.int)) ∈ BIG := gdW8 134 (by decide +kernel) rfl
theorem bw_1815 : (Jvm.Cond.methodLink "TollClockLaw" (270 : Nat) ({ cls := "TollClockModel", name := "countsCourtDays", desc := "(I)Z" } : Jvm.MethodName)) ∈ BIG := gdW8 135 (by decide +kernel) rfl
theorem bw_1816 : (Jvm.Cond.instanceMethod ({ cls := "TollClockModel", name := "countsCourtDays", desc := "(I)Z" } : Jvm.MethodName)) ∈ BIG := gdW8 136 (by decide +kernel) rfl
theorem bw_1817 : (Jvm.Cond.selects "TollClockModel" ({ cls := "TollClockModel", name := "countsCourtDays", desc := "(I)Z" } : Jvm.MethodName) ({ cls := "TollClockModel", name := "countsCourtDays", desc := "(I)Z" } : Jvm.MethodName)) ∈ BIG := gdW8 137 (by decide +kernel) rfl
theorem bw_1818 : (Jvm.Cond.code ({ cls := "TollClockModel", name := "countsCourtDays", desc := "(I)Z" } : Jvm.MethodName) prog_14_method_36_code (2 : Nat) (Option.some Jvm.ClassFile.FieldType.boolean)) ∈ BIG := gdW8 138 (by decide +kernel) rfl
theorem bw_1819 : (Jvm.Cond.methodLink "TollClockLaw" (274 : Nat) ({ cls := "TollClockModel", name := "setServiceDays", desc := "(CI)I" } : Jvm.MethodName)) ∈ BIG := gdW8 139 (by decide +kernel) rfl
theorem bw_1820 : (Jvm.Cond.instanceMethod ({ cls := "TollClockModel", name := "setServiceDays", desc := "(CI)I" } : Jvm.MethodName)) ∈ BIG := gdW8 140 (by decide +kernel) rfl
theorem bw_1821 : (Jvm.Cond.selects "TollClockModel" ({ cls := "TollClockModel", name := "setServiceDays", desc := "(CI)I" } : Jvm.MethodName) ({ cls := "TollClockModel", name := "setServiceDays", desc := "(CI)I" } : Jvm.MethodName)) ∈ BIG := gdW8 141 (by decide +kernel) rfl
theorem bw_1822 : (Jvm.Cond.code ({ cls := "TollClockModel", name := "setServiceDays", desc := "(CI)I" } : Jvm.MethodName) prog_14_method_38_code (4 : Nat) (Option.some Jvm.ClassFile.FieldType.int)) ∈ BIG := gdW8 142 (by decide +kernel) rfl
theorem bw_1823 : (Jvm.Cond.methodLink "TollClockModel" (122 : Nat) ({ cls := "TollClockModel", name := "wayOf", desc := "(I)I" } : Jvm.MethodName)) ∈ BIG := gdW8 143 (by decide +kernel) rfl
theorem bw_1824 : (Jvm.Cond.static ({ cls := "TollClockModel", name := "wayOf", desc := "(I)I" } : Jvm.MethodName)) ∈ BIG := gdW8 144 (by decide +kernel) rfl
theorem bw_1825 : (Jvm.Cond.code ({ cls := "TollClockModel", name := "wayOf", desc := "(I)I" } : Jvm.MethodName) prog_14_method_37_code (1 : Nat) (Option.some Jvm.ClassFile.FieldType.int)) ∈ BIG := gdW8 145 (by decide +kernel) rfl
theorem bw_1826 : (Jvm.Cond.methodLink "TollClockLaw" (277 : Nat) ({ cls := "TollClockModel", name := "serviceDays", desc := "(C)I" } : Jvm.MethodName)) ∈ BIG := gdW8 146 (by decide +kernel) rfl
theorem bw_1827 : (Jvm.Cond.instanceMethod ({ cls := "TollClockModel", name := "serviceDays", desc := "(C)I" } : Jvm.MethodName)) ∈ BIG := gdW8 147 (by decide +kernel) rfl
theorem bw_1828 : (Jvm.Cond.selects "TollClockModel" ({ cls := "TollClockModel", name := "serviceDays", desc := "(C)I" } : Jvm.MethodName) ({ cls := "TollClockModel", name := "serviceDays", desc := "(C)I" } : Jvm.MethodName)) ∈ BIG := gdW8 148 (by decide +kernel) rfl
theorem bw_1829 : (Jvm.Cond.code ({ cls := "TollClockModel", name := "serviceDays", desc := "(C)I" } : Jvm.MethodName) prog_14_method_39_code (2 : Nat) (Option.some Jvm.ClassFile.FieldType.int)) ∈ BIG := gdW8 149 (by decide +kernel) rfl
theorem bw_1830 : (Jvm.Cond.methodLink "TollClockLaw" (280 : Nat) ({ cls := "TollClockModel", name := "lastDayBefore", desc := "(II)I" } : Jvm.MethodName)) ∈ BIG := gdW8 150 (by decide +kernel) rfl
theorem bw_1831 : (Jvm.Cond.instanceMethod ({ cls := "TollClockModel", name := "lastDayBefore", desc := "(II)I" } : Jvm.MethodName)) ∈ BIG := gdW8 151 (by decide +kernel) rfl
theorem bw_1832 : (Jvm.Cond.selects "TollClockModel" ({ cls := "TollClockModel", name := "lastDayBefore", desc := "(II)I" } : Jvm.MethodName) ({ cls := "TollClockModel", name := "lastDayBefore", desc := "(II)I" } : Jvm.MethodName)) ∈ BIG := gdW8 152 (by decide +kernel) rfl
theorem bw_1833 : (Jvm.Cond.code ({ cls := "TollClockModel", name := "lastDayBefore", desc := "(II)I" } : Jvm.MethodName) prog_14_method_40_code (6 : Nat) (Option.some Jvm.ClassFile.FieldType.int)) ∈ BIG := gdW8 153 (by decide +kernel) rfl
theorem bw_1834 : (Jvm.Cond.methodLink "TollClockLaw" (283 : Nat) ({ cls := "TollClockModel", name := "lastDayBeforeByMarking", desc := "(II)I" } : Jvm.MethodName)) ∈ BIG := gdW8 154 (by decide +kernel) rfl
theorem bw_1835 : (Jvm.Cond.instanceMethod ({ cls := "TollClockModel", name := "lastDayBeforeByMarking", desc := "(II)I" } : Jvm.MethodName)) ∈ BIG := gdW8 155 (by decide +kernel) rfl
theorem bw_1836 : (Jvm.Cond.selects "TollClockModel" ({ cls := "TollClockModel", name := "lastDayBeforeByMarking", desc := "(II)I" } : Jvm.MethodName) ({ cls := "TollClockModel", name := "lastDayBeforeByMarking", desc := "(II)I" } : Jvm.MethodName)) ∈ BIG := gdW8 156 (by decide +kernel) rfl
theorem bw_1837 : (Jvm.Cond.code ({ cls := "TollClockModel", name := "lastDayBeforeByMarking", desc := "(II)I" } : Jvm.MethodName) prog_14_method_41_code (3 : Nat) (Option.some Jvm.ClassFile.FieldType.int)) ∈ BIG := gdW8 157 (by decide +kernel) rfl
theorem bw_1838 : (Jvm.Cond.methodLink "TollClockModel" (125 : Nat) ({ cls := "TollClockModel", name := "lastDayBefore", desc := "(II)I" } : Jvm.MethodName)) ∈ BIG := gdW8 158 (by decide +kernel) rfl
theorem bw_1839 : (Jvm.Cond.methodLink "TollClockLaw" (287 : Nat) ({ cls := "TollClockModel", name := "serve", desc := "(IIC)I" } : Jvm.MethodName)) ∈ BIG := gdW8 159 (by decide +kernel) rfl
theorem bw_1840 : (Jvm.Cond.instanceMethod ({ cls := "TollClockModel", name := "serve", desc := "(IIC)I" } : Jvm.MethodName)) ∈ BIG := gdW8 160 (by decide +kernel) rfl
theorem bw_1841 : (Jvm.Cond.selects "TollClockModel" ({ cls := "TollClockModel", name := "serve", desc := "(IIC)I" } : Jvm.MethodName) ({ cls := "TollClockModel", name := "serve", desc := "(IIC)I" } : Jvm.MethodName)) ∈ BIG := gdW8 161 (by decide +kernel) rfl
theorem bw_1842 : (Jvm.Cond.code ({ cls := "TollClockModel", name := "serve", desc := "(IIC)I" } : Jvm.MethodName) prog_14_method_46_code (6 : Nat) (Option.some Jvm.ClassFile.FieldType.int)) ∈ BIG := gdW8 162 (by decide +kernel) rfl
theorem bw_1843 : (Jvm.Cond.methodLink "TollClockModel" (128 : Nat) ({ cls := "TollClockModel", name := "deadlineAt", desc := "(I)I" } : Jvm.MethodName)) ∈ BIG := gdW8 163 (by decide +kernel) rfl
theorem bw_1844 : (Jvm.Cond.static ({ cls := "TollClockModel", name := "deadlineAt", desc := "(I)I" } : Jvm.MethodName)) ∈ BIG := gdW8 164 (by decide +kernel) rfl
theorem bw_1845 : (Jvm.Cond.code ({ cls := "TollClockModel", name := "deadlineAt", desc := "(I)I" } : Jvm.MethodName) prog_14_method_42_code (1 : Nat) (Option.some Jvm.ClassFile.FieldType.int)) ∈ BIG := gdW8 165 (by decide +kernel) rfl
theorem bw_1846 : (Jvm.Cond.methodLink "TollClockLaw" (291 : Nat) ({ cls := "TollClockModel", name := "deadlines", desc := "()I" } : Jvm.MethodName)) ∈ BIG := gdW8 166 (by decide +kernel) rfl
theorem bw_1847 : (Jvm.Cond.instanceMethod ({ cls := "TollClockModel", name := "deadlines", desc := "()I" } : Jvm.MethodName)) ∈ BIG := gdW8 167 (by decide +kernel) rfl
theorem bw_1848 : (Jvm.Cond.selects "TollClockModel" ({ cls := "TollClockModel", name := "deadlines", desc := "()I" } : Jvm.MethodName) ({ cls := "TollClockModel", name := "deadlines", desc := "()I" } : Jvm.MethodName)) ∈ BIG := gdW8 168 (by decide +kernel) rfl
theorem bw_1849 : (Jvm.Cond.code ({ cls := "TollClockModel", name := "deadlines", desc := "()I" } : Jvm.MethodName) prog_14_method_47_code (1 : Nat) (Option.some Jvm.ClassFile.FieldType.int)) ∈ BIG := gdW8 169 (by decide +kernel) rfl
theorem bw_1850 : (Jvm.Cond.methodLink "TollClockLaw" (294 : Nat) ({ cls := "TollClockModel", name := "due", desc := "(I)I" } : Jvm.MethodName)) ∈ BIG := gdW8 170 (by decide +kernel) rfl
theorem bw_1851 : (Jvm.Cond.instanceMethod ({ cls := "TollClockModel", name := "due", desc := "(I)I" } : Jvm.MethodName)) ∈ BIG := gdW8 171 (by decide +kernel) rfl
theorem bw_1852 : (Jvm.Cond.selects "TollClockModel" ({ cls := "TollClockModel", name := "due", desc := "(I)I" } : Jvm.MethodName) ({ cls := "TollClockModel", name := "due", desc := "(I)I" } : Jvm.MethodName)) ∈ BIG := gdW8 172 (by decide +kernel) rfl
theorem bw_1853 : (Jvm.Cond.code ({ cls := "TollClockModel", name := "due", desc := "(I)I" } : Jvm.MethodName) prog_14_method_53_code (3 : Nat) (Option.some Jvm.ClassFile.FieldType.int)) ∈ BIG := gdW8 173 (by decide +kernel) rfl
theorem bw_1854 : (Jvm.Cond.methodLink "TollClockModel" (147 : Nat) ({ cls := "TollClockModel", name := "noDeadline", desc := "(I)Z" } : Jvm.MethodName)) ∈ BIG := gdW8 174 (by decide +kernel) rfl
theorem bw_1856 : (Jvm.Cond.instanceMethod ({ cls := "TollClockModel", name := "noDeadline", desc := "(I)Z" } : Jvm.MethodName)) ∈ BIG := gdW8 176 (by decide +kernel) rfl
theorem bw_1857 : (Jvm.Cond.code ({ cls := "TollClockModel", name := "noDeadline", desc := "(I)Z" } : Jvm.MethodName) prog_14_method_44_code (2 : Nat) (Option.some Jvm.ClassFile.FieldType.boolean)) ∈ BIG := gdW8 177 (by decide +kernel) rfl
theorem bw_1858 : (Jvm.Cond.methodLink "TollClockModel" (150 : Nat) ({ cls := "TollClockModel", name := "dueOf", desc := "(I)I" } : Jvm.MethodName)) ∈ BIG := gdW8 178 (by decide +kernel) rfl
theorem bw_1860 : (Jvm.Cond.instanceMethod ({ cls := "TollClockModel", name := "dueOf", desc := "(I)I" } : Jvm.MethodName)) ∈ BIG := gdW8 180 (by decide +kernel) rfl
theorem bw_1861 : (Jvm.Cond.code ({ cls := "TollClockModel", name := "dueOf", desc := "(I)I" } : Jvm.MethodName) prog_14_method_52_code (4 : Nat) (Option.some Jvm.ClassFile.FieldType.int)) ∈ BIG := gdW8 181 (by decide +kernel) rfl
theorem bw_1862 : (Jvm.Cond.methodLink "TollClockModel" (131 : Nat) ({ cls := "TollClockModel", name := "of", desc := "(II)I" } : Jvm.MethodName)) ∈ BIG := gdW8 182 (by decide +kernel) rfl
theorem bw_1864 : (Jvm.Cond.instanceMethod ({ cls := "TollClockModel", name := "of", desc := "(II)I" } : Jvm.MethodName)) ∈ BIG := gdW8 184 (by decide +kernel) rfl
theorem bw_1865 : (Jvm.Cond.code ({ cls := "TollClockModel", name := "of", desc := "(II)I" } : Jvm.MethodName) prog_14_method_43_code (3 : Nat) (Option.some Jvm.ClassFile.FieldType.int)) ∈ BIG := gdW8 185 (by decide +kernel) rfl
theorem bw_1866 : (Jvm.Cond.methodLink "TollClockModel" (137 : Nat) ({ cls := "TollClockModel", name := "parts", desc := "(I)I" } : Jvm.MethodName)) ∈ BIG := gdW8 186 (by decide +kernel) rfl
theorem bw_1868 : (Jvm.Cond.instanceMethod ({ cls := "TollClockModel", name := "parts", desc := "(I)I" } : Jvm.MethodName)) ∈ BIG := gdW8 188 (by decide +kernel) rfl
theorem bw_1869 : (Jvm.Cond.code ({ cls := "TollClockModel", name := "parts", desc := "(I)I" } : Jvm.MethodName) prog_14_method_50_code (2 : Nat) (Option.some Jvm.ClassFile.FieldType.int)) ∈ BIG := gdW8 189 (by decide +kernel) rfl
theorem bw_1870 : (Jvm.Cond.methodLink "TollClockModel" (140 : Nat) ({ cls := "TollClockModel", name := "partLength", desc := "(II)I" } : Jvm.MethodName)) ∈ BIG := gdW8 190 (by decide +kernel) rfl
theorem bw_1872 : (Jvm.Cond.instanceMethod ({ cls := "TollClockModel", name := "partLength", desc := "(II)I" } : Jvm.MethodName)) ∈ BIG := gdW8 192 (by decide +kernel) rfl
theorem bw_1873 : (Jvm.Cond.code ({ cls := "TollClockModel", name := "partLength", desc := "(II)I" } : Jvm.MethodName) prog_14_method_51_code (4 : Nat) (Option.some Jvm.ClassFile.FieldType.int)) ∈ BIG := gdW8 193 (by decide +kernel) rfl
theorem bw_1874 : (Jvm.Cond.methodLink "TollClockModel" (143 : Nat) ({ cls := "TollClockModel", name := "endOf", desc := "(IIIIZ)I" } : Jvm.MethodName)) ∈ BIG := gdW8 194 (by decide +kernel) rfl
theorem bw_1876 : (Jvm.Cond.instanceMethod ({ cls := "TollClockModel", name := "endOf", desc := "(IIIIZ)I" } : Jvm.MethodName)) ∈ BIG := gdW8 196 (by decide +kernel) rfl
theorem bw_1877 : (Jvm.Cond.code ({ cls := "TollClockModel", name := "endOf", desc := "(IIIIZ)I" } : Jvm.MethodName) prog_14_method_49_code (8 : Nat) (Option.some Jvm.ClassFile.FieldType.int)) ∈ BIG := gdW8 197 (by decide +kernel) rfl
theorem bw_1878 : (Jvm.Cond.methodLink "TollClockModel" (134 : Nat) ({ cls := "TollClockModel", name := "isStoppedFor", desc := "(III)Z" } : Jvm.MethodName)) ∈ BIG := gdW8 198 (by decide +kernel) rfl
theorem bw_1880 : (Jvm.Cond.instanceMethod ({ cls := "TollClockModel", name := "isStoppedFor", desc := "(III)Z" } : Jvm.MethodName)) ∈ BIG := gdW8 200 (by decide +kernel) rfl
theorem bw_1881 : (Jvm.Cond.code ({ cls := "TollClockModel", name := "isStoppedFor", desc := "(III)Z" } : Jvm.MethodName) prog_14_method_48_code (7 : Nat) (Option.some Jvm.ClassFile.FieldType.boolean)) ∈ BIG := gdW8 201 (by decide +kernel) rfl
theorem bw_1882 : (Jvm.Cond.methodLink "TollClockLaw" (297 : Nat) ({ cls := "TollClockModel", name := "dueByMarking", desc := "(I)I" } : Jvm.MethodName)) ∈ BIG := gdW8 202 (by decide +kernel) rfl
theorem bw_1883 : (Jvm.Cond.instanceMethod ({ cls := "TollClockModel", name := "dueByMarking", desc := "(I)I" } : Jvm.MethodName)) ∈ BIG := gdW8 203 (by decide +kernel) rfl
theorem bw_1884 : (Jvm.Cond.selects "TollClockModel" ({ cls := "TollClockModel", name := "dueByMarking", desc := "(I)I" } : Jvm.MethodName) ({ cls := "TollClockModel", name := "dueByMarking", desc := "(I)I" } : Jvm.MethodName)) ∈ BIG := gdW8 204 (by decide +kernel) rfl
theorem bw_1885 : (Jvm.Cond.code ({ cls := "TollClockModel", name := "dueByMarking", desc := "(I)I" } : Jvm.MethodName) prog_14_method_54_code (2 : Nat) (Option.some Jvm.ClassFile.FieldType.int)) ∈ BIG := gdW8 205 (by decide +kernel) rfl
theorem bw_1886 : (Jvm.Cond.methodLink "TollClockModel" (153 : Nat) ({ cls := "TollClockModel", name := "due", desc := "(I)I" } : Jvm.MethodName)) ∈ BIG := gdW8 206 (by decide +kernel) rfl
theorem bw_1887 : (Jvm.Cond.methodLink "TollClockLaw" (300 : Nat) ({ cls := "TollClockModel", name := "daysLeft", desc := "(I)I" } : Jvm.MethodName)) ∈ BIG := gdW8 207 (by decide +kernel) rfl
theorem bw_1888 : (Jvm.Cond.instanceMethod ({ cls := "TollClockModel", name := "daysLeft", desc := "(I)I" } : Jvm.MethodName)) ∈ BIG := gdW8 208 (by decide +kernel) rfl
theorem bw_1889 : (Jvm.Cond.selects "TollClockModel" ({ cls := "TollClockModel", name := "daysLeft", desc := "(I)I" } : Jvm.MethodName) ({ cls := "TollClockModel", name := "daysLeft", desc := "(I)I" } : Jvm.MethodName)) ∈ BIG := gdW8 209 (by decide +kernel) rfl
theorem bw_1890 : (Jvm.Cond.code ({ cls := "TollClockModel", name := "daysLeft", desc := "(I)I" } : Jvm.MethodName) prog_14_method_56_code (2 : Nat) (Option.some Jvm.ClassFile.FieldType.int)) ∈ BIG := gdW8 210 (by decide +kernel) rfl
theorem bw_1891 : (Jvm.Cond.methodLink "TollClockModel" (156 : Nat) ({ cls := "TollClockModel", name := "leftOf", desc := "(I)I" } : Jvm.MethodName)) ∈ BIG := gdW8 211 (by decide +kernel) rfl
theorem bw_1893 : (Jvm.Cond.instanceMethod ({ cls := "TollClockModel", name := "leftOf", desc := "(I)I" } : Jvm.MethodName)) ∈ BIG := gdW8 213 (by decide +kernel) rfl
theorem bw_1894 : (Jvm.Cond.code ({ cls := "TollClockModel", name := "leftOf", desc := "(I)I" } : Jvm.MethodName) prog_14_method_55_code (8 : Nat) (Option.some Jvm.ClassFile.FieldType.int)) ∈ BIG := gdW8 214 (by decide +kernel) rfl
theorem bw_1895 : (Jvm.Cond.methodLink "TollClockLaw" (303 : Nat) ({ cls := "TollClockModel", name := "daysLeftByMarking", desc := "(I)I" } : Jvm.MethodName)) ∈ BIG := gdW8 215 (by decide +kernel) rfl
theorem bw_1896 : (Jvm.Cond.instanceMethod ({ cls := "TollClockModel", name := "daysLeftByMarking", desc := "(I)I" } : Jvm.MethodName)) ∈ BIG := gdW8 216 (by decide +kernel) rfl
theorem bw_1897 : (Jvm.Cond.selects "TollClockModel" ({ cls := "TollClockModel", name := "daysLeftByMarking", desc := "(I)I" } : Jvm.MethodName) ({ cls := "TollClockModel", name := "daysLeftByMarking", desc := "(I)I" } : Jvm.MethodName)) ∈ BIG := gdW8 217 (by decide +kernel) rfl
theorem bw_1898 : (Jvm.Cond.code ({ cls := "TollClockModel", name := "daysLeftByMarking", desc := "(I)I" } : Jvm.MethodName) prog_14_method_57_code (2 : Nat) (Option.some Jvm.ClassFile.FieldType.int)) ∈ BIG := gdW8 218 (by decide +kernel) rfl
theorem bw_1899 : (Jvm.Cond.methodLink "TollClockModel" (159 : Nat) ({ cls := "TollClockModel", name := "daysLeft", desc := "(I)I" } : Jvm.MethodName)) ∈ BIG := gdW8 219 (by decide +kernel) rfl
theorem bw_1900 : (Jvm.Cond.methodLink "TollClockLaw" (306 : Nat) ({ cls := "TollClockModel", name := "extendByConsent", desc := "(II)I" } : Jvm.MethodName)) ∈ BIG := gdW8 220 (by decide +kernel) rfl
theorem bw_1901 : (Jvm.Cond.instanceMethod ({ cls := "TollClockModel", name := "extendByConsent", desc := "(II)I" } : Jvm.MethodName)) ∈ BIG := gdW8 221 (by decide +kernel) rfl
theorem bw_1902 : (Jvm.Cond.selects "TollClockModel" ({ cls := "TollClockModel", name := "extendByConsent", desc := "(II)I" } : Jvm.MethodName) ({ cls := "TollClockModel", name := "extendByConsent", desc := "(II)I" } : Jvm.MethodName)) ∈ BIG := gdW8 222 (by decide +kernel) rfl
theorem bw_1903 : (Jvm.Cond.code ({ cls := "TollClockModel", name := "extendByConsent", desc := "(II)I" } : Jvm.MethodName) prog_14_method_61_code (3 : Nat) (Option.some Jvm.ClassFile.FieldType.int)) ∈ BIG := gdW8 223 (by decide +kernel) rfl
theorem bw_1904 : (Jvm.Cond.methodLink "TollClockModel" (165 : Nat) ({ cls := "TollClockModel", name := "isOpen", desc := "(I)Z" } : Jvm.MethodName)) ∈ BIG := gdW8 224 (by decide +kernel) rfl
theorem bw_1906 : (Jvm.Cond.instanceMethod ({ cls := "TollClockModel", name := "isOpen", desc := "(I)Z" } : Jvm.MethodName)) ∈ BIG := gdW8 226 (by decide +kernel) rfl
theorem bw_1907 : (Jvm.Cond.code ({ cls := "TollClockModel", name := "isOpen", desc := "(I)Z" } : Jvm.MethodName) prog_14_method_45_code (2 : Nat) (Option.some Jvm.ClassFile.FieldType.boolean)) ∈ BIG := gdW8 227 (by decide +kernel) rfl
theorem bw_1908 : (Jvm.Cond.methodLink "TollClockModel" (168 : Nat) ({ cls := "TollClockModel", name := "isPast", desc := "(I)Z" } : Jvm.MethodName)) ∈ BIG := gdW8 228 (by decide +kernel) rfl
theorem bw_1910 : (Jvm.Cond.instanceMethod ({ cls := "TollClockModel", name := "isPast", desc := "(I)Z" } : Jvm.MethodName)) ∈ BIG := gdW8 230 (by decide +kernel) rfl
theorem bw_1911 : (Jvm.Cond.code ({ cls := "TollClockModel", name := "isPast", desc := "(I)Z" } : Jvm.MethodName) prog_14_method_58_code (3 : Nat) (Option.some Jvm.ClassFile.FieldType.boolean)) ∈ BIG := gdW8 231 (by decide +kernel) rfl
theorem bw_1912 : (Jvm.Cond.methodLink "TollClockModel" (171 : Nat) ({ cls := "TollClockModel", name := "grant", desc := "(II)I" } : Jvm.MethodName)) ∈ BIG := gdW8 232 (by decide +kernel) rfl
theorem bw_1914 : (Jvm.Cond.instanceMethod ({ cls := "TollClockModel", name := "grant", desc := "(II)I" } : Jvm.MethodName)) ∈ BIG := gdW8 234 (by decide +kernel) rfl
theorem bw_1915 : (Jvm.Cond.code ({ cls := "TollClockModel", name := "grant", desc := "(II)I" } : Jvm.MethodName) prog_14_method_60_code (4 : Nat) (Option.some Jvm.ClassFile.FieldType.int)) ∈ BIG := gdW8 235 (by decide +kernel) rfl
theorem bw_1916 : (Jvm.Cond.methodLink "TollClockModel" (162 : Nat) ({ cls := "TollClockModel", name := "grantedOf", desc := "(I)I" } : Jvm.MethodName)) ∈ BIG := gdW8 236 (by decide +kernel) rfl
theorem bw_1918 : (Jvm.Cond.instanceMethod ({ cls := "TollClockModel", name := "grantedOf", desc := "(I)I" } : Jvm.MethodName)) ∈ BIG := gdW8 238 (by decide +kernel) rfl
theorem bw_1919 : (Jvm.Cond.code ({ cls := "TollClockModel", name := "grantedOf", desc := "(I)I" } : Jvm.MethodName) prog_14_method_59_code (4 : Nat) (Option.some Jvm.ClassFile.FieldType.int)) ∈ BIG := gdW8 239 (by decide +kernel) rfl
theorem bw_1920 : (Jvm.Cond.methodLink "TollClockLaw" (309 : Nat) ({ cls := "TollClockModel", name := "extendByOrder", desc := "(II)I" } : Jvm.MethodName)) ∈ BIG := gdW9 0 (by decide +kernel) rfl
theorem bw_1921 : (Jvm.Cond.instanceMethod ({ cls := "TollClockModel", name := "extendByOrder", desc := "(II)I" } : Jvm.MethodName)) ∈ BIG := gdW9 1 (by decide +kernel) rfl
theorem bw_1922 : (Jvm.Cond.selects "TollClockModel" ({ cls := "TollClockModel", name := "extendByOrder", desc := "(II)I" } : Jvm.MethodName) ({ cls := "TollClockModel", name := "extendByOrder", desc := "(II)I" } : Jvm.MethodName)) ∈ BIG := gdW9 2 (by decide +kernel) rfl
theorem bw_1923 : (Jvm.Cond.code ({ cls := "TollClockModel", name := "extendByOrder", desc := "(II)I" } : Jvm.MethodName) prog_14_method_62_code (3 : Nat) (Option.some Jvm.ClassFile.FieldType.int)) ∈ BIG := gdW9 3 (by decide +kernel) rfl
theorem bw_1924 : (Jvm.Cond.methodLink "TollClockLaw" (312 : Nat) ({ cls := "TollClockModel", name := "extensionDays", desc := "(I)I" } : Jvm.MethodName)) ∈ BIG := gdW9 4 (by decide +kernel) rfl
theorem bw_1925 : (Jvm.Cond.instanceMethod ({ cls := "TollClockModel", name := "extensionDays", desc := "(I)I" } : Jvm.MethodName)) ∈ BIG := gdW9 5 (by decide +kernel) rfl
theorem bw_1926 : (Jvm.Cond.selects "TollClockModel" ({ cls := "TollClockModel", name := "extensionDays", desc := "(I)I" } : Jvm.MethodName) ({ cls := "TollClockModel", name := "extensionDays", desc := "(I)I" } : Jvm.MethodName)) ∈ BIG := gdW9 6 (by decide +kernel) rfl
theorem bw_1927 : (Jvm.Cond.code ({ cls := "TollClockModel", name := "extensionDays", desc := "(I)I" } : Jvm.MethodName) prog_14_method_63_code (2 : Nat) (Option.some Jvm.ClassFile.FieldType.int)) ∈ BIG := gdW9 7 (by decide +kernel) rfl
theorem bw_1928 : (Jvm.Cond.methodLink "TollClockLaw" (315 : Nat) ({ cls := "TollClockModel", name := "file", desc := "(I)Z" } : Jvm.MethodName)) ∈ BIG := gdW9 8 (by decide +kernel) rfl
theorem bw_1929 : (Jvm.Cond.instanceMethod ({ cls := "TollClockModel", name := "file", desc := "(I)Z" } : Jvm.MethodName)) ∈ BIG := gdW9 9 (by decide +kernel) rfl
theorem bw_1930 : (Jvm.Cond.selects "TollClockModel" ({ cls := "TollClockModel", name := "file", desc := "(I)Z" } : Jvm.MethodName) ({ cls := "TollClockModel", name := "file", desc := "(I)Z" } : Jvm.MethodName)) ∈ BIG := gdW9 10 (by decide +kernel) rfl
theorem bw_1931 : (Jvm.Cond.code ({ cls := "TollClockModel", name := "file", desc := "(I)Z" } : Jvm.MethodName) prog_14_method_64_code (3 : Nat) (Option.some Jvm.ClassFile.FieldType.boolean)) ∈ BIG := gdW9 11 (by decide +kernel) rfl
theorem bw_1932 : (Jvm.Cond.methodLink "TollClockLaw" (318 : Nat) ({ cls := "TollClockModel", name := "strike", desc := "(I)I" } : Jvm.MethodName)) ∈ BIG := gdW9 12 (by decide +kernel) rfl
theorem bw_1933 : (Jvm.Cond.instanceMethod ({ cls := "TollClockModel", name := "strike", desc := "(I)I" } : Jvm.MethodName)) ∈ BIG := gdW9 13 (by decide +kernel) rfl
theorem bw_1934 : (Jvm.Cond.selects "TollClockModel" ({ cls := "TollClockModel", name := "strike", desc := "(I)I" } : Jvm.MethodName) ({ cls := "TollClockModel", name := "strike", desc := "(I)I" } : Jvm.MethodName)) ∈ BIG := gdW9 14 (by decide +kernel) rfl
theorem bw_1935 : (Jvm.Cond.code ({ cls := "TollClockModel", name := "strike", desc := "(I)I" } : Jvm.MethodName) prog_14_method_65_code (4 : Nat) (Option.some Jvm.ClassFile.FieldType.int)) ∈ BIG := gdW9 15 (by decide +kernel) rfl
theorem bw_1936 : (Jvm.Cond.methodLink "TollClockLaw" (321 : Nat) ({ cls := "TollClockModel", name := "status", desc := "(I)C" } : Jvm.MethodName)) ∈ BIG := gdW9 16 (by decide +kernel) rfl
theorem bw_1937 : (Jvm.Cond.instanceMethod ({ cls := "TollClockModel", name := "status", desc := "(I)C" } : Jvm.MethodName)) ∈ BIG := gdW9 17 (by decide +kernel) rfl
theorem bw_1938 : (Jvm.Cond.selects "TollClockModel" ({ cls := "TollClockModel", name := "status", desc := "(I)C" } : Jvm.MethodName) ({ cls := "TollClockModel", name := "status", desc := "(I)C" } : Jvm.MethodName)) ∈ BIG := gdW9 18 (by decide +kernel) rfl
theorem bw_1939 : (Jvm.Cond.code ({ cls := "TollClockModel", name := "status", desc := "(I)C" } : Jvm.MethodName) prog_14_method_66_code (2 : Nat) (Option.some Jvm.ClassFile.FieldType.char)) ∈ BIG := gdW9 19 (by decide +kernel) rfl
theorem bw_1940 : (Jvm.Cond.methodLink "TollClockLaw" (324 : Nat) ({ cls := "TollClockModel", name := "openAt", desc := "(I)I" } : Jvm.MethodName)) ∈ BIG := gdW9 20 (by decide +kernel) rfl
theorem bw_1941 : (Jvm.Cond.instanceMethod ({ cls := "TollClockModel", name := "openAt", desc := "(I)I" } : Jvm.MethodName)) ∈ BIG := gdW9 21 (by decide +kernel) rfl
theorem bw_1942 : (Jvm.Cond.selects "TollClockModel" ({ cls := "TollClockModel", name := "openAt", desc := "(I)I" } : Jvm.MethodName) ({ cls := "TollClockModel", name := "openAt", desc := "(I)I" } : Jvm.MethodName)) ∈ BIG := gdW9 22 (by decide +kernel) rfl
theorem bw_1943 : (Jvm.Cond.code ({ cls := "TollClockModel", name := "openAt", desc := "(I)I" } : Jvm.MethodName) prog_14_method_68_code (5 : Nat) (Option.some Jvm.ClassFile.FieldType.int)) ∈ BIG := gdW9 23 (by decide +kernel) rfl
theorem bw_1944 : (Jvm.Cond.methodLink "TollClockModel" (174 : Nat) ({ cls := "TollClockModel", name := "findDues", desc := "()V" } : Jvm.MethodName)) ∈ BIG := gdW9 24 (by decide +kernel) rfl
theorem bw_1946 : (Jvm.Cond.instanceMethod ({ cls := "TollClockModel", name := "findDues", desc := "()V" } : Jvm.MethodName)) ∈ BIG := gdW9 26 (by decide +kernel) rfl
theorem bw_1947 : (Jvm.Cond.code ({ cls := "TollClockModel", name := "findDues", desc := "()V" } : Jvm.MethodName) prog_14_method_67_code (3 : Nat) (Option.none : Option Jvm.ClassFile.FieldType)) ∈ BIG := gdW9 27 (by decide +kernel) rfl
theorem bw_1948 : (Jvm.Cond.methodLink "TollClockLaw" (328 : Nat) ({ cls := "TollClockModel", name := "overdue", desc := "()I" } : Jvm.MethodName)) ∈ BIG := gdW9 28 (by decide +kernel) rfl
theorem bw_1949 : (Jvm.Cond.instanceMethod ({ cls := "TollClockModel", name := "overdue", desc := "()I" } : Jvm.MethodName)) ∈ BIG := gdW9 29 (by decide +kernel) rfl
theorem bw_1950 : (Jvm.Cond.selects "TollClockModel" ({ cls := "TollClockModel", name := "overdue", desc := "()I" } : Jvm.MethodName) ({ cls := "TollClockModel", name := "overdue", desc := "()I" } : Jvm.MethodName)) ∈ BIG := gdW9 30 (by decide +kernel) rfl
theorem bw_1951 : (Jvm.Cond.code ({ cls := "TollClockModel", name := "overdue", desc := "()I" } : Jvm.MethodName) prog_14_method_69_code (3 : Nat) (Option.some Jvm.ClassFile.FieldType.int)) ∈ BIG := gdW9 31 (by decide +kernel) rfl
theorem bw_1952 : (Jvm.Cond.methodLink "TollClockLaw" (331 : Nat) ({ cls := "TollClockModel", name := "busiestDay", desc := "()I" } : Jvm.MethodName)) ∈ BIG := gdW9 32 (by decide +kernel) rfl
theorem bw_1953 : (Jvm.Cond.instanceMethod ({ cls := "TollClockModel", name := "busiestDay", desc := "()I" } : Jvm.MethodName)) ∈ BIG := gdW9 33 (by decide +kernel) rfl
theorem bw_1954 : (Jvm.Cond.selects "TollClockModel" ({ cls := "TollClockModel", name := "busiestDay", desc := "()I" } : Jvm.MethodName) ({ cls := "TollClockModel", name := "busiestDay", desc := "()I" } : Jvm.MethodName)) ∈ BIG := gdW9 34 (by decide +kernel) rfl
theorem bw_1955 : (Jvm.Cond.code ({ cls := "TollClockModel", name := "busiestDay", desc := "()I" } : Jvm.MethodName) prog_14_method_70_code (6 : Nat) (Option.some Jvm.ClassFile.FieldType.int)) ∈ BIG := gdW9 35 (by decide +kernel) rfl
theorem bw_1956 : (Jvm.Cond.methodLink "TollClockLaw" (335 : Nat) ({ cls := "TollClockModel", name := "meanDaysLeft", desc := "()D" } : Jvm.MethodName)) ∈ BIG := gdW9 36 (by decide +kernel) rfl
theorem bw_1957 : (Jvm.Cond.instanceMethod ({ cls := "TollClockModel", name := "meanDaysLeft", desc := "()D" } : Jvm.MethodName)) ∈ BIG := gdW9 37 (by decide +kernel) rfl
theorem bw_1958 : (Jvm.Cond.selects "TollClockModel" ({ cls := "TollClockModel", name := "meanDaysLeft", desc := "()D" } : Jvm.MethodName) ({ cls := "TollClockModel", name := "meanDaysLeft", desc := "()D" } : Jvm.MethodName)) ∈ BIG := gdW9 38 (by decide +kernel) rfl
theorem bw_1959 : (Jvm.Cond.code ({ cls := "TollClockModel", name := "meanDaysLeft", desc := "()D" } : Jvm.MethodName) prog_14_method_71_code (4 : Nat) (Option.some Jvm.ClassFile.FieldType.double)) ∈ BIG := gdW9 39 (by decide +kernel) rfl
theorem bw_1960 : (Jvm.Cond.methodLink "TollClockLaw" (338 : Nat) ({ cls := "TollClockModel", name := "stayParty", desc := "(II)I" } : Jvm.MethodName)) ∈ BIG := gdW9 40 (by decide +kernel) rfl
theorem bw_1961 : (Jvm.Cond.instanceMethod ({ cls := "TollClockModel", name := "stayParty", desc := "(II)I" } : Jvm.MethodName)) ∈ BIG := gdW9 41 (by decide +kernel) rfl
theorem bw_1962 : (Jvm.Cond.selects "TollClockModel" ({ cls := "TollClockModel", name := "stayParty", desc := "(II)I" } : Jvm.MethodName) ({ cls := "TollClockModel", name := "stayParty", desc := "(II)I" } : Jvm.MethodName)) ∈ BIG := gdW9 42 (by decide +kernel) rfl
theorem bw_1963 : (Jvm.Cond.code ({ cls := "TollClockModel", name := "stayParty", desc := "(II)I" } : Jvm.MethodName) prog_14_method_73_code (3 : Nat) (Option.some Jvm.ClassFile.FieldType.int)) ∈ BIG := gdW9 43 (by decide +kernel) rfl
theorem bw_1964 : (Jvm.Cond.methodLink "TollClockModel" (177 : Nat) ({ cls := "TollClockModel", name := "order", desc := "(II)I" } : Jvm.MethodName)) ∈ BIG := gdW9 44 (by decide +kernel) rfl
theorem bw_1966 : (Jvm.Cond.instanceMethod ({ cls := "TollClockModel", name := "order", desc := "(II)I" } : Jvm.MethodName)) ∈ BIG := gdW9 46 (by decide +kernel) rfl
theorem bw_1967 : (Jvm.Cond.code ({ cls := "TollClockModel", name := "order", desc := "(II)I" } : Jvm.MethodName) prog_14_method_72_code (4 : Nat) (Option.some Jvm.ClassFile.FieldType.int)) ∈ BIG := gdW9 47 (by decide +kernel) rfl
theorem bw_1968 : (Jvm.Cond.methodLink "TollClockLaw" (341 : Nat) ({ cls := "TollClockModel", name := "stayAll", desc := "(I)I" } : Jvm.MethodName)) ∈ BIG := gdW9 48 (by decide +kernel) rfl
theorem bw_1969 : (Jvm.Cond.instanceMethod ({ cls := "TollClockModel", name := "stayAll", desc := "(I)I" } : Jvm.MethodName)) ∈ BIG := gdW9 49 (by decide +kernel) rfl
theorem bw_1970 : (Jvm.Cond.selects "TollClockModel" ({ cls := "TollClockModel", name := "stayAll", desc := "(I)I" } : Jvm.MethodName) ({ cls := "TollClockModel", name := "stayAll", desc := "(I)I" } : Jvm.MethodName)) ∈ BIG := gdW9 50 (by decide +kernel) rfl
theorem bw_1971 : (Jvm.Cond.code ({ cls := "TollClockModel", name := "stayAll", desc := "(I)I" } : Jvm.MethodName) prog_14_method_74_code (2 : Nat) (Option.some Jvm.ClassFile.FieldType.int)) ∈ BIG := gdW9 51 (by decide +kernel) rfl
theorem bw_1972 : (Jvm.Cond.methodLink "TollClockLaw" (344 : Nat) ({ cls := "TollClockModel", name := "lift", desc := "(I)I" } : Jvm.MethodName)) ∈ BIG := gdW9 52 (by decide +kernel) rfl
theorem bw_1973 : (Jvm.Cond.instanceMethod ({ cls := "TollClockModel", name := "lift", desc := "(I)I" } : Jvm.MethodName)) ∈ BIG := gdW9 53 (by decide +kernel) rfl
theorem bw_1974 : (Jvm.Cond.selects "TollClockModel" ({ cls := "TollClockModel", name := "lift", desc := "(I)I" } : Jvm.MethodName) ({ cls := "TollClockModel", name := "lift", desc := "(I)I" } : Jvm.MethodName)) ∈ BIG := gdW9 54 (by decide +kernel) rfl
theorem bw_1975 : (Jvm.Cond.code ({ cls := "TollClockModel", name := "lift", desc := "(I)I" } : Jvm.MethodName) prog_14_method_75_code (2 : Nat) (Option.some Jvm.ClassFile.FieldType.int)) ∈ BIG := gdW9 55 (by decide +kernel) rfl
theorem bw_1976 : (Jvm.Cond.methodLink "TollClockLaw" (348 : Nat) ({ cls := "TollClockModel", name := "staysInForce", desc := "()I" } : Jvm.MethodName)) ∈ BIG := gdW9 56 (by decide +kernel) rfl
theorem bw_1977 : (Jvm.Cond.instanceMethod ({ cls := "TollClockModel", name := "staysInForce", desc := "()I" } : Jvm.MethodName)) ∈ BIG := gdW9 57 (by decide +kernel) rfl
theorem bw_1978 : (Jvm.Cond.selects "TollClockModel" ({ cls := "TollClockModel", name := "staysInForce", desc := "()I" } : Jvm.MethodName) ({ cls := "TollClockModel", name := "staysInForce", desc := "()I" } : Jvm.MethodName)) ∈ BIG := gdW9 58 (by decide +kernel) rfl
theorem bw_1979 : (Jvm.Cond.code ({ cls := "TollClockModel", name := "staysInForce", desc := "()I" } : Jvm.MethodName) prog_14_method_76_code (3 : Nat) (Option.some Jvm.ClassFile.FieldType.int)) ∈ BIG := gdW9 59 (by decide +kernel) rfl
theorem bw_1980 : (Jvm.Cond.methodLink "TollClockLaw" (351 : Nat) ({ cls := "TollClockModel", name := "isStopped", desc := "(II)Z" } : Jvm.MethodName)) ∈ BIG := gdW9 60 (by decide +kernel) rfl
theorem bw_1981 : (Jvm.Cond.instanceMethod ({ cls := "TollClockModel", name := "isStopped", desc := "(II)Z" } : Jvm.MethodName)) ∈ BIG := gdW9 61 (by decide +kernel) rfl
theorem bw_1982 : (Jvm.Cond.selects "TollClockModel" ({ cls := "TollClockModel", name := "isStopped", desc := "(II)Z" } : Jvm.MethodName) ({ cls := "TollClockModel", name := "isStopped", desc := "(II)Z" } : Jvm.MethodName)) ∈ BIG := gdW9 62 (by decide +kernel) rfl
theorem bw_1983 : (Jvm.Cond.code ({ cls := "TollClockModel", name := "isStopped", desc := "(II)Z" } : Jvm.MethodName) prog_14_method_78_code (3 : Nat) (Option.some Jvm.ClassFile.FieldType.boolean)) ∈ BIG := gdW9 63 (by decide +kernel) rfl
theorem bw_1984 : (Jvm.Cond.methodLink "TollClockModel" (180 : Nat) ({ cls := "TollClockModel", name := "isStoppedOf", desc := "(II)Z" } : Jvm.MethodName)) ∈ BIG := gdW9 64 (by decide +kernel) rfl
theorem bw_1986 : (Jvm.Cond.instanceMethod ({ cls := "TollClockModel", name := "isStoppedOf", desc := "(II)Z" } : Jvm.MethodName)) ∈ BIG := gdW9 66 (by decide +kernel) rfl
theorem bw_1987 : (Jvm.Cond.code ({ cls := "TollClockModel", name := "isStoppedOf", desc := "(II)Z" } : Jvm.MethodName) prog_14_method_77_code (3 : Nat) (Option.some Jvm.ClassFile.FieldType.boolean)) ∈ BIG := gdW9 67 (by decide +kernel) rfl
theorem bw_1988 : (Jvm.Cond.methodLink "TollClockLaw" (355 : Nat) ({ cls := "TollClockModel", name := "stoppedDays", desc := "(III)I" } : Jvm.MethodName)) ∈ BIG := gdW9 68 (by decide +kernel) rfl
theorem bw_1989 : (Jvm.Cond.instanceMethod ({ cls := "TollClockModel", name := "stoppedDays", desc := "(III)I" } : Jvm.MethodName)) ∈ BIG := gdW9 69 (by decide +kernel) rfl
theorem bw_1990 : (Jvm.Cond.selects "TollClockModel" ({ cls := "TollClockModel", name := "stoppedDays", desc := "(III)I" } : Jvm.MethodName) ({ cls := "TollClockModel", name := "stoppedDays", desc := "(III)I" } : Jvm.MethodName)) ∈ BIG := gdW9 70 (by decide +kernel) rfl
theorem bw_1991 : (Jvm.Cond.code ({ cls := "TollClockModel", name := "stoppedDays", desc := "(III)I" } : Jvm.MethodName) prog_14_method_79_code (6 : Nat) (Option.some Jvm.ClassFile.FieldType.int)) ∈ BIG := gdW9 71 (by decide +kernel) rfl
theorem bw_1992 : (Jvm.Cond.methodLink "TollClockLaw" (358 : Nat) ({ cls := "TollClockModel", name := "stoppedDaysByMarking", desc := "(III)I" } : Jvm.MethodName)) ∈ BIG := gdW9 72 (by decide +kernel) rfl
theorem bw_1993 : (Jvm.Cond.instanceMethod ({ cls := "TollClockModel", name := "stoppedDaysByMarking", desc := "(III)I" } : Jvm.MethodName)) ∈ BIG := gdW9 73 (by decide +kernel) rfl
theorem bw_1994 : (Jvm.Cond.selects "TollClockModel" ({ cls := "TollClockModel", name := "stoppedDaysByMarking", desc := "(III)I" } : Jvm.MethodName) ({ cls := "TollClockModel", name := "stoppedDaysByMarking", desc := "(III)I" } : Jvm.MethodName)) ∈ BIG := gdW9 74 (by decide +kernel) rfl
theorem bw_1995 : (Jvm.Cond.code ({ cls := "TollClockModel", name := "stoppedDaysByMarking", desc := "(III)I" } : Jvm.MethodName) prog_14_method_80_code (4 : Nat) (Option.some Jvm.ClassFile.FieldType.int)) ∈ BIG := gdW9 75 (by decide +kernel) rfl
theorem bw_1996 : (Jvm.Cond.methodLink "TollClockModel" (184 : Nat) ({ cls := "TollClockModel", name := "stoppedDays", desc := "(III)I" } : Jvm.MethodName)) ∈ BIG := gdW9 76 (by decide +kernel) rfl
theorem bw_1997 : (Jvm.Cond.methodLink "TollClockLaw" (361 : Nat) ({ cls := "TollClockModel", name := "addOccurrence", desc := "(II)I" } : Jvm.MethodName)) ∈ BIG := gdW9 77 (by decide +kernel) rfl
theorem bw_1998 : (Jvm.Cond.instanceMethod ({ cls := "TollClockModel", name := "addOccurrence", desc := "(II)I" } : Jvm.MethodName)) ∈ BIG := gdW9 78 (by decide +kernel) rfl
theorem bw_1999 : (Jvm.Cond.selects "TollClockModel" ({ cls := "TollClockModel", name := "addOccurrence", desc := "(II)I" } : Jvm.MethodName) ({ cls := "TollClockModel", name := "addOccurrence", desc := "(II)I" } : Jvm.MethodName)) ∈ BIG := gdW9 79 (by decide +kernel) rfl
theorem bw_2000 : (Jvm.Cond.code ({ cls := "TollClockModel", name := "addOccurrence", desc := "(II)I" } : Jvm.MethodName) prog_14_method_83_code (4 : Nat) (Option.some Jvm.ClassFile.FieldType.int)) ∈ BIG := gdW9 80 (by decide +kernel) rfl
theorem bw_2001 : (Jvm.Cond.methodLink "TollClockModel" (188 : Nat) ({ cls := "TollClockModel", name := "occurrenceAt", desc := "(I)I" } : Jvm.MethodName)) ∈ BIG := gdW9 81 (by decide +kernel) rfl
theorem bw_2002 : (Jvm.Cond.static ({ cls := "TollClockModel", name := "occurrenceAt", desc := "(I)I" } : Jvm.MethodName)) ∈ BIG := gdW9 82 (by decide +kernel) rfl
theorem bw_2003 : (Jvm.Cond.code ({ cls := "TollClockModel", name := "occurrenceAt", desc := "(I)I" } : Jvm.MethodName) prog_14_method_81_code (1 : Nat) (Option.some Jvm.ClassFile.FieldType.int)) ∈ BIG := gdW9 83 (by decide +kernel) rfl
theorem bw_2004 : (Jvm.Cond.methodLink "TollClockLaw" (364 : Nat) ({ cls := "TollClockModel", name := "linkOccurrences", desc := "(II)I" } : Jvm.MethodName)) ∈ BIG := gdW9 84 (by decide +kernel) rfl
theorem bw_2005 : (Jvm.Cond.instanceMethod ({ cls := "TollClockModel", name := "linkOccurrences", desc := "(II)I" } : Jvm.MethodName)) ∈ BIG := gdW9 85 (by decide +kernel) rfl
theorem bw_2006 : (Jvm.Cond.selects "TollClockModel" ({ cls := "TollClockModel", name := "linkOccurrences", desc := "(II)I" } : Jvm.MethodName) ({ cls := "TollClockModel", name := "linkOccurrences", desc := "(II)I" } : Jvm.MethodName)) ∈ BIG := gdW9 86 (by decide +kernel) rfl
theorem bw_2007 : (Jvm.Cond.code ({ cls := "TollClockModel", name := "linkOccurrences", desc := "(II)I" } : Jvm.MethodName) prog_14_method_85_code (5 : Nat) (Option.some Jvm.ClassFile.FieldType.int)) ∈ BIG := gdW9 87 (by decide +kernel) rfl
theorem bw_2008 : (Jvm.Cond.methodLink "TollClockModel" (191 : Nat) ({ cls := "TollClockModel", name := "noOccurrence", desc := "(I)Z" } : Jvm.MethodName)) ∈ BIG := gdW9 88 (by decide +kernel) rfl
theorem bw_2010 : (Jvm.Cond.instanceMethod ({ cls := "TollClockModel", name := "noOccurrence", desc := "(I)Z" } : Jvm.MethodName)) ∈ BIG := gdW9 90 (by decide +kernel) rfl
theorem bw_2011 : (Jvm.Cond.code ({ cls := "TollClockModel", name := "noOccurrence", desc := "(I)Z" } : Jvm.MethodName) prog_14_method_82_code (2 : Nat) (Option.some Jvm.ClassFile.FieldType.boolean)) ∈ BIG := gdW9 91 (by decide +kernel) rfl
theorem bw_2012 : (Jvm.Cond.methodLink "TollClockModel" (194 : Nat) ({ cls := "TollClockModel", name := "conduct", desc := "(I)I" } : Jvm.MethodName)) ∈ BIG := gdW9 92 (by decide +kernel) rfl
theorem bw_2014 : (Jvm.Cond.instanceMethod ({ cls := "TollClockModel", name := "conduct", desc := "(I)I" } : Jvm.MethodName)) ∈ BIG := gdW9 94 (by decide +kernel) rfl
theorem bw_2015 : (Jvm.Cond.code ({ cls := "TollClockModel", name := "conduct", desc := "(I)I" } : Jvm.MethodName) prog_14_method_84_code (5 : Nat) (Option.some Jvm.ClassFile.FieldType.int)) ∈ BIG := gdW9 95 (by decide +kernel) rfl
theorem bw_2016 : (Jvm.Cond.methodLink "TollClockLaw" (367 : Nat) ({ cls := "TollClockModel", name := "sameConduct", desc := "(II)Z" } : Jvm.MethodName)) ∈ BIG := gdW9 96 (by decide +kernel) rfl
theorem bw_2017 : (Jvm.Cond.instanceMethod ({ cls := "TollClockModel", name := "sameConduct", desc := "(II)Z" } : Jvm.MethodName)) ∈ BIG := gdW9 97 (by decide +kernel) rfl
theorem bw_2018 : (Jvm.Cond.selects "TollClockModel" ({ cls := "TollClockModel", name := "sameConduct", desc := "(II)Z" } : Jvm.MethodName) ({ cls := "TollClockModel", name := "sameConduct", desc := "(II)Z" } : Jvm.MethodName)) ∈ BIG := gdW9 98 (by decide +kernel) rfl
theorem bw_2019 : (Jvm.Cond.code ({ cls := "TollClockModel", name := "sameConduct", desc := "(II)Z" } : Jvm.MethodName) prog_14_method_86_code (3 : Nat) (Option.some Jvm.ClassFile.FieldType.boolean)) ∈ BIG := gdW9 99 (by decide +kernel) rfl
theorem bw_2020 : (Jvm.Cond.methodLink "TollClockLaw" (370 : Nat) ({ cls := "TollClockModel", name := "sameConductBySearch", desc := "(II)Z" } : Jvm.MethodName)) ∈ BIG := gdW9 100 (by decide +kernel) rfl
theorem bw_2021 : (Jvm.Cond.instanceMethod ({ cls := "TollClockModel", name := "sameConductBySearch", desc := "(II)Z" } : Jvm.MethodName)) ∈ BIG := gdW9 101 (by decide +kernel) rfl
theorem bw_2022 : (Jvm.Cond.selects "TollClockModel" ({ cls := "TollClockModel", name := "sameConductBySearch", desc := "(II)Z" } : Jvm.MethodName) ({ cls := "TollClockModel", name := "sameConductBySearch", desc := "(II)Z" } : Jvm.MethodName)) ∈ BIG := gdW9 102 (by decide +kernel) rfl
theorem bw_2023 : (Jvm.Cond.code ({ cls := "TollClockModel", name := "sameConductBySearch", desc := "(II)Z" } : Jvm.MethodName) prog_14_method_87_code (3 : Nat) (Option.some Jvm.ClassFile.FieldType.boolean)) ∈ BIG := gdW9 103 (by decide +kernel) rfl
theorem bw_2024 : (Jvm.Cond.methodLink "TollClockModel" (197 : Nat) ({ cls := "TollClockModel", name := "sameConduct", desc := "(II)Z" } : Jvm.MethodName)) ∈ BIG := gdW9 104 (by decide +kernel) rfl
theorem bw_2025 : (Jvm.Cond.methodLink "TollClockLaw" (373 : Nat) ({ cls := "TollClockModel", name := "barDay", desc := "(I)I" } : Jvm.MethodName)) ∈ BIG := gdW9 105 (by decide +kernel) rfl
theorem bw_2026 : (Jvm.Cond.instanceMethod ({ cls := "TollClockModel", name := "barDay", desc := "(I)I" } : Jvm.MethodName)) ∈ BIG := gdW9 106 (by decide +kernel) rfl
theorem bw_2027 : (Jvm.Cond.selects "TollClockModel" ({ cls := "TollClockModel", name := "barDay", desc := "(I)I" } : Jvm.MethodName) ({ cls := "TollClockModel", name := "barDay", desc := "(I)I" } : Jvm.MethodName)) ∈ BIG := gdW9 107 (by decide +kernel) rfl
theorem bw_2028 : (Jvm.Cond.code ({ cls := "TollClockModel", name := "barDay", desc := "(I)I" } : Jvm.MethodName) prog_14_method_89_code (3 : Nat) (Option.some Jvm.ClassFile.FieldType.int)) ∈ BIG := gdW9 108 (by decide +kernel) rfl
theorem bw_2029 : (Jvm.Cond.methodLink "TollClockModel" (200 : Nat) ({ cls := "TollClockModel", name := "barOf", desc := "(I)I" } : Jvm.MethodName)) ∈ BIG := gdW9 109 (by decide +kernel) rfl
theorem bw_2031 : (Jvm.Cond.instanceMethod ({ cls := "TollClockModel", name := "barOf", desc := "(I)I" } : Jvm.MethodName)) ∈ BIG := gdW9 111 (by decide +kernel) rfl
theorem bw_2032 : (Jvm.Cond.code ({ cls := "TollClockModel", name := "barOf", desc := "(I)I" } : Jvm.MethodName) prog_14_method_88_code (3 : Nat) (Option.some Jvm.ClassFile.FieldType.int)) ∈ BIG := gdW9 112 (by decide +kernel) rfl
theorem bw_2033 : (Jvm.Cond.methodLink "TollClockLaw" (376 : Nat) ({ cls := "TollClockModel", name := "fileClaim", desc := "(II)I" } : Jvm.MethodName)) ∈ BIG := gdW9 113 (by decide +kernel) rfl
theorem bw_2034 : (Jvm.Cond.instanceMethod ({ cls := "TollClockModel", name := "fileClaim", desc := "(II)I" } : Jvm.MethodName)) ∈ BIG := gdW9 114 (by decide +kernel) rfl
theorem bw_2035 : (Jvm.Cond.selects "TollClockModel" ({ cls := "TollClockModel", name := "fileClaim", desc := "(II)I" } : Jvm.MethodName) ({ cls := "TollClockModel", name := "fileClaim", desc := "(II)I" } : Jvm.MethodName)) ∈ BIG := gdW9 115 (by decide +kernel) rfl
theorem bw_2036 : (Jvm.Cond.code ({ cls := "TollClockModel", name := "fileClaim", desc := "(II)I" } : Jvm.MethodName) prog_14_method_93_code (3 : Nat) (Option.some Jvm.ClassFile.FieldType.int)) ∈ BIG := gdW9 116 (by decide +kernel) rfl
theorem bw_2037 : (Jvm.Cond.methodLink "TollClockModel" (206 : Nat) ({ cls := "TollClockModel", name := "claim", desc := "(III)I" } : Jvm.MethodName)) ∈ BIG := gdW9 117 (by decide +kernel) rfl
theorem bw_2039 : (Jvm.Cond.instanceMethod ({ cls := "TollClockModel", name := "claim", desc := "(III)I" } : Jvm.MethodName)) ∈ BIG := gdW9 119 (by decide +kernel) rfl
theorem bw_2040 : (Jvm.Cond.code ({ cls := "TollClockModel", name := "claim", desc := "(III)I" } : Jvm.MethodName) prog_14_method_92_code (5 : Nat) (Option.some Jvm.ClassFile.FieldType.int)) ∈ BIG := gdW9 120 (by decide +kernel) rfl
theorem bw_2041 : (Jvm.Cond.methodLink "TollClockModel" (203 : Nat) ({ cls := "TollClockModel", name := "claimAt", desc := "(I)I" } : Jvm.MethodName)) ∈ BIG := gdW9 121 (by decide +kernel) rfl
theorem bw_2042 : (Jvm.Cond.static ({ cls := "TollClockModel", name := "claimAt", desc := "(I)I" } : Jvm.MethodName)) ∈ BIG := gdW9 122 (by decide +kernel) rfl
theorem bw_2043 : (Jvm.Cond.code ({ cls := "TollClockModel", name := "claimAt", desc := "(I)I" } : Jvm.MethodName) prog_14_method_90_code (1 : Nat) (Option.some Jvm.ClassFile.FieldType.int)) ∈ BIG := gdW9 123 (by decide +kernel) rfl
theorem bw_2044 : (Jvm.Cond.methodLink "TollClockLaw" (379 : Nat) ({ cls := "TollClockModel", name := "amendClaim", desc := "(II)I" } : Jvm.MethodName)) ∈ BIG := gdW9 124 (by decide +kernel) rfl
theorem bw_2045 : (Jvm.Cond.instanceMethod ({ cls := "TollClockModel", name := "amendClaim", desc := "(II)I" } : Jvm.MethodName)) ∈ BIG := gdW9 125 (by decide +kernel) rfl
theorem bw_2046 : (Jvm.Cond.selects "TollClockModel" ({ cls := "TollClockModel", name := "amendClaim", desc := "(II)I" } : Jvm.MethodName) ({ cls := "TollClockModel", name := "amendClaim", desc := "(II)I" } : Jvm.MethodName)) ∈ BIG := gdW9 126 (by decide +kernel) rfl
theorem bw_2047 : (Jvm.Cond.code ({ cls := "TollClockModel", name := "amendClaim", desc := "(II)I" } : Jvm.MethodName) prog_14_method_94_code (3 : Nat) (Option.some Jvm.ClassFile.FieldType.int)) ∈ BIG := gdW9 127 (by decide +kernel) rfl
theorem bw_2048 : (Jvm.Cond.methodLink "TollClockModel" (209 : Nat) ({ cls := "TollClockModel", name := "noClaim", desc := "(I)Z" } : Jvm.MethodName)) ∈ BIG := gdW9 128 (by decide +kernel) rfl
theorem bw_2050 : (Jvm.Cond.instanceMethod ({ cls := "TollClockModel", name := "noClaim", desc := "(I)Z" } : Jvm.MethodName)) ∈ BIG := gdW9 130 (by decide +kernel) rfl
theorem bw_2051 : (Jvm.Cond.code ({ cls := "TollClockModel", name := "noClaim", desc := "(I)Z" } : Jvm.MethodName) prog_14_method_91_code (2 : Nat) (Option.some Jvm.ClassFile.FieldType.boolean)) ∈ BIG := gdW9 131 (by decide +kernel) rfl
theorem bw_2052 : (Jvm.Cond.methodLink "TollClockLaw" (382 : Nat) ({ cls := "TollClockModel", name := "effectiveDay", desc := "(I)I" } : Jvm.MethodName)) ∈ BIG := gdW9 132 (by decide +kernel) rfl
theorem bw_2053 : (Jvm.Cond.instanceMethod ({ cls := "TollClockModel", name := "effectiveDay", desc := "(I)I" } : Jvm.MethodName)) ∈ BIG := gdW9 133 (by decide +kernel) rfl
theorem bw_2054 : (Jvm.Cond.selects "TollClockModel" ({ cls := "TollClockModel", name := "effectiveDay", desc := "(I)I" } : Jvm.MethodName) ({ cls := "TollClockModel", name := "effectiveDay", desc := "(I)I" } : Jvm.MethodName)) ∈ BIG := gdW9 134 (by decide +kernel) rfl
theorem bw_2055 : (Jvm.Cond.code ({ cls := "TollClockModel", name := "effectiveDay", desc := "(I)I" } : Jvm.MethodName) prog_14_method_96_code (2 : Nat) (Option.some Jvm.ClassFile.FieldType.int)) ∈ BIG := gdW9 135 (by decide +kernel) rfl
theorem bw_2056 : (Jvm.Cond.methodLink "TollClockModel" (212 : Nat) ({ cls := "TollClockModel", name := "effectiveOf", desc := "(I)I" } : Jvm.MethodName)) ∈ BIG := gdW9 136 (by decide +kernel) rfl
theorem bw_2058 : (Jvm.Cond.instanceMethod ({ cls := "TollClockModel", name := "effectiveOf", desc := "(I)I" } : Jvm.MethodName)) ∈ BIG := gdW9 138 (by decide +kernel) rfl
theorem bw_2059 : (Jvm.Cond.code ({ cls := "TollClockModel", name := "effectiveOf", desc := "(I)I" } : Jvm.MethodName) prog_14_method_95_code (3 : Nat) (Option.some Jvm.ClassFile.FieldType.int)) ∈ BIG := gdW9 139 (by decide +kernel) rfl
theorem bw_2060 : (Jvm.Cond.methodLink "TollClockLaw" (385 : Nat) ({ cls := "TollClockModel", name := "isTimely", desc := "(I)Z" } : Jvm.MethodName)) ∈ BIG := gdW9 140 (by decide +kernel) rfl
theorem bw_2061 : (Jvm.Cond.instanceMethod ({ cls := "TollClockModel", name := "isTimely", desc := "(I)Z" } : Jvm.MethodName)) ∈ BIG := gdW9 141 (by decide +kernel) rfl
theorem bw_2062 : (Jvm.Cond.selects "TollClockModel" ({ cls := "TollClockModel", name := "isTimely", desc := "(I)Z" } : Jvm.MethodName) ({ cls := "TollClockModel", name := "isTimely", desc := "(I)Z" } : Jvm.MethodName)) ∈ BIG := gdW9 142 (by decide +kernel) rfl
theorem bw_2063 : (Jvm.Cond.code ({ cls := "TollClockModel", name := "isTimely", desc := "(I)Z" } : Jvm.MethodName) prog_14_method_98_code (2 : Nat) (Option.some Jvm.ClassFile.FieldType.boolean)) ∈ BIG := gdW9 143 (by decide +kernel) rfl
theorem bw_2064 : (Jvm.Cond.methodLink "TollClockModel" (215 : Nat) ({ cls := "TollClockModel", name := "isTimelyNow", desc := "(I)Z" } : Jvm.MethodName)) ∈ BIG := gdW9 144 (by decide +kernel) rfl
theorem bw_2066 : (Jvm.Cond.instanceMethod ({ cls := "TollClockModel", name := "isTimelyNow", desc := "(I)Z" } : Jvm.MethodName)) ∈ BIG := gdW9 146 (by decide +kernel) rfl
theorem bw_2067 : (Jvm.Cond.code ({ cls := "TollClockModel", name := "isTimelyNow", desc := "(I)Z" } : Jvm.MethodName) prog_14_method_97_code (3 : Nat) (Option.some Jvm.ClassFile.FieldType.boolean)) ∈ BIG := gdW9 147 (by decide +kernel) rfl
theorem bw_2068 : (Jvm.Cond.methodLink "TollClockLaw" (388 : Nat) ({ cls := "TollClockModel", name := "timelyClaims", desc := "(I)I" } : Jvm.MethodName)) ∈ BIG := gdW9 148 (by decide +kernel) rfl
theorem bw_2069 : (Jvm.Cond.instanceMethod ({ cls := "TollClockModel", name := "timelyClaims", desc := "(I)I" } : Jvm.MethodName)) ∈ BIG := gdW9 149 (by decide +kernel) rfl
theorem bw_2070 : (Jvm.Cond.selects "TollClockModel" ({ cls := "TollClockModel", name := "timelyClaims", desc := "(I)I" } : Jvm.MethodName) ({ cls := "TollClockModel", name := "timelyClaims", desc := "(I)I" } : Jvm.MethodName)) ∈ BIG := gdW9 150 (by decide +kernel) rfl
theorem bw_2071 : (Jvm.Cond.code ({ cls := "TollClockModel", name := "timelyClaims", desc := "(I)I" } : Jvm.MethodName) prog_14_method_99_code (4 : Nat) (Option.some Jvm.ClassFile.FieldType.int)) ∈ BIG := gdW9 151 (by decide +kernel) rfl
theorem bw_2072 : (Jvm.Cond.methodLink "TollClockLaw" (391 : Nat) ({ cls := "TollClockModel", name := "writeDeadline", desc := "(I)I" } : Jvm.MethodName)) ∈ BIG := gdW9 152 (by decide +kernel) rfl
theorem bw_2073 : (Jvm.Cond.instanceMethod ({ cls := "TollClockModel", name := "writeDeadline", desc := "(I)I" } : Jvm.MethodName)) ∈ BIG := gdW9 153 (by decide +kernel) rfl
theorem bw_2074 : (Jvm.Cond.selects "TollClockModel" ({ cls := "TollClockModel", name := "writeDeadline", desc := "(I)I" } : Jvm.MethodName) ({ cls := "TollClockModel", name := "writeDeadline", desc := "(I)I" } : Jvm.MethodName)) ∈ BIG := gdW9 154 (by decide +kernel) rfl
theorem bw_2075 : (Jvm.Cond.code ({ cls := "TollClockModel", name := "writeDeadline", desc := "(I)I" } : Jvm.MethodName) prog_14_method_101_code (3 : Nat) (Option.some Jvm.ClassFile.FieldType.int)) ∈ BIG := gdW9 155 (by decide +kernel) rfl
theorem bw_2076 : (Jvm.Cond.methodLink "TollClockModel" (218 : Nat) ({ cls := "TollClockModel", name := "putNumber", desc := "(I)V" } : Jvm.MethodName)) ∈ BIG := gdW9 156 (by decide +kernel) rfl
theorem bw_2078 : (Jvm.Cond.instanceMethod ({ cls := "TollClockModel", name := "putNumber", desc := "(I)V" } : Jvm.MethodName)) ∈ BIG := gdW9 158 (by decide +kernel) rfl
theorem bw_2079 : (Jvm.Cond.code ({ cls := "TollClockModel", name := "putNumber", desc := "(I)V" } : Jvm.MethodName) prog_14_method_100_code (3 : Nat) (Option.none : Option Jvm.ClassFile.FieldType)) ∈ BIG := gdW9 159 (by decide +kernel) rfl
theorem bw_2080 : (Jvm.Cond.methodLink "TollClockLaw" (394 : Nat) ({ cls := "TollClockModel", name := "charAt", desc := "(I)C" } : Jvm.MethodName)) ∈ BIG := gdW9 160 (by decide +kernel) rfl
theorem bw_2081 : (Jvm.Cond.instanceMethod ({ cls := "TollClockModel", name := "charAt", desc := "(I)C" } : Jvm.MethodName)) ∈ BIG := gdW9 161 (by decide +kernel) rfl
theorem bw_2082 : (Jvm.Cond.selects "TollClockModel" ({ cls := "TollClockModel", name := "charAt", desc := "(I)C" } : Jvm.MethodName) ({ cls := "TollClockModel", name := "charAt", desc := "(I)C" } : Jvm.MethodName)) ∈ BIG := gdW9 162 (by decide +kernel) rfl
theorem bw_2083 : (Jvm.Cond.code ({ cls := "TollClockModel", name := "charAt", desc := "(I)C" } : Jvm.MethodName) prog_14_method_102_code (2 : Nat) (Option.some Jvm.ClassFile.FieldType.char)) ∈ BIG := gdW9 163 (by decide +kernel) rfl
theorem bw_2084 : (Jvm.Cond.methodLink "TollClockLaw" (399 : Nat) ({ cls := "TollClockModel", name := "isConsistent", desc := "()Z" } : Jvm.MethodName)) ∈ BIG := gdW9 164 (by decide +kernel) rfl
theorem bw_2085 : (Jvm.Cond.instanceMethod ({ cls := "TollClockModel", name := "isConsistent", desc := "()Z" } : Jvm.MethodName)) ∈ BIG := gdW9 165 (by decide +kernel) rfl
theorem bw_2086 : (Jvm.Cond.selects "TollClockModel" ({ cls := "TollClockModel", name := "isConsistent", desc := "()Z" } : Jvm.MethodName) ({ cls := "TollClockModel", name := "isConsistent", desc := "()Z" } : Jvm.MethodName)) ∈ BIG := gdW9 166 (by decide +kernel) rfl
theorem bw_2087 : (Jvm.Cond.code ({ cls := "TollClockModel", name := "isConsistent", desc := "()Z" } : Jvm.MethodName) prog_14_method_103_code (1 : Nat) (Option.some Jvm.ClassFile.FieldType.boolean)) ∈ BIG := gdW9 167 (by decide +kernel) rfl
theorem bw_2088 : (Jvm.Cond.methodLink "TollClockLaw" (402 : Nat) ({ cls := "TollClockModel", name := "run", desc := "()I" } : Jvm.MethodName)) ∈ BIG := gdW9 168 (by decide +kernel) rfl
theorem bw_2089 : (Jvm.Cond.instanceMethod ({ cls := "TollClockModel", name := "run", desc := "()I" } : Jvm.MethodName)) ∈ BIG := gdW9 169 (by decide +kernel) rfl
theorem bw_2090 : (Jvm.Cond.selects "TollClockModel" ({ cls := "TollClockModel", name := "run", desc := "()I" } : Jvm.MethodName) ({ cls := "TollClockModel", name := "run", desc := "()I" } : Jvm.MethodName)) ∈ BIG := gdW9 170 (by decide +kernel) rfl
theorem bw_2091 : (Jvm.Cond.code ({ cls := "TollClockModel", name := "run", desc := "()I" } : Jvm.MethodName) prog_14_method_114_code (4 : Nat) (Option.some Jvm.ClassFile.FieldType.int)) ∈ BIG := gdW9 171 (by decide +kernel) rfl
theorem bw_2092 : (Jvm.Cond.methodLink "TollClockModel" (277 : Nat) ({ cls := "TollClockModel", name := "readProgram", desc := "()Z" } : Jvm.MethodName)) ∈ BIG := gdW9 172 (by decide +kernel) rfl
theorem bw_2094 : (Jvm.Cond.instanceMethod ({ cls := "TollClockModel", name := "readProgram", desc := "()Z" } : Jvm.MethodName)) ∈ BIG := gdW9 174 (by decide +kernel) rfl
theorem bw_2095 : (Jvm.Cond.code ({ cls := "TollClockModel", name := "readProgram", desc := "()Z" } : Jvm.MethodName) prog_14_method_112_code (1 : Nat) (Option.some Jvm.ClassFile.FieldType.boolean)) ∈ BIG := gdW9 175 (by decide +kernel) rfl
theorem bw_2096 : (Jvm.Cond.methodLink "TollClockModel" (252 : Nat) ({ cls := "TollClockModel", name := "command", desc := "()V" } : Jvm.MethodName)) ∈ BIG := gdW9 176 (by decide +kernel) rfl
theorem bw_2098 : (Jvm.Cond.instanceMethod ({ cls := "TollClockModel", name := "command", desc := "()V" } : Jvm.MethodName)) ∈ BIG := gdW9 178 (by decide +kernel) rfl
theorem bw_2099 : (Jvm.Cond.code ({ cls := "TollClockModel", name := "command", desc := "()V" } : Jvm.MethodName) prog_14_method_111_code (3 : Nat) (Option.none : Option Jvm.ClassFile.FieldType)) ∈ BIG := gdW9 179 (by decide +kernel) rfl
theorem bw_2100 : (Jvm.Cond.methodLink "TollClockModel" (227 : Nat) ({ cls := "TollClockModel", name := "isAt", desc := "(I)Z" } : Jvm.MethodName)) ∈ BIG := gdW9 180 (by decide +kernel) rfl
theorem bw_2102 : (Jvm.Cond.instanceMethod ({ cls := "TollClockModel", name := "isAt", desc := "(I)Z" } : Jvm.MethodName)) ∈ BIG := gdW9 182 (by decide +kernel) rfl
theorem bw_2103 : (Jvm.Cond.code ({ cls := "TollClockModel", name := "isAt", desc := "(I)Z" } : Jvm.MethodName) prog_14_method_104_code (2 : Nat) (Option.some Jvm.ClassFile.FieldType.boolean)) ∈ BIG := gdW9 183 (by decide +kernel) rfl
theorem bw_2104 : (Jvm.Cond.methodLink "TollClockModel" (245 : Nat) ({ cls := "TollClockModel", name := "takeWord", desc := "(IIIIII)V" } : Jvm.MethodName)) ∈ BIG := gdW9 184 (by decide +kernel) rfl
theorem bw_2106 : (Jvm.Cond.instanceMethod ({ cls := "TollClockModel", name := "takeWord", desc := "(IIIIII)V" } : Jvm.MethodName)) ∈ BIG := gdW9 186 (by decide +kernel) rfl
theorem bw_2107 : (Jvm.Cond.code ({ cls := "TollClockModel", name := "takeWord", desc := "(IIIIII)V" } : Jvm.MethodName) prog_14_method_107_code (7 : Nat) (Option.none : Option Jvm.ClassFile.FieldType)) ∈ BIG := gdW9 187 (by decide +kernel) rfl
theorem bw_2108 : (Jvm.Cond.methodLink "TollClockModel" (230 : Nat) ({ cls := "TollClockModel", name := "take", desc := "(I)V" } : Jvm.MethodName)) ∈ BIG := gdW9 188 (by decide +kernel) rfl
theorem bw_2110 : (Jvm.Cond.instanceMethod ({ cls := "TollClockModel", name := "take", desc := "(I)V" } : Jvm.MethodName)) ∈ BIG := gdW9 190 (by decide +kernel) rfl
theorem bw_2111 : (Jvm.Cond.code ({ cls := "TollClockModel", name := "take", desc := "(I)V" } : Jvm.MethodName) prog_14_method_106_code (2 : Nat) (Option.none : Option Jvm.ClassFile.FieldType)) ∈ BIG := gdW9 191 (by decide +kernel) rfl
theorem bw_2112 : (Jvm.Cond.methodLink "TollClockModel" (233 : Nat) ({ cls := "TollClockModel", name := "takeIf", desc := "(I)V" } : Jvm.MethodName)) ∈ BIG := gdW9 192 (by decide +kernel) rfl
theorem bw_2114 : (Jvm.Cond.instanceMethod ({ cls := "TollClockModel", name := "takeIf", desc := "(I)V" } : Jvm.MethodName)) ∈ BIG := gdW9 194 (by decide +kernel) rfl
theorem bw_2115 : (Jvm.Cond.code ({ cls := "TollClockModel", name := "takeIf", desc := "(I)V" } : Jvm.MethodName) prog_14_method_108_code (2 : Nat) (Option.none : Option Jvm.ClassFile.FieldType)) ∈ BIG := gdW9 195 (by decide +kernel) rfl
theorem bw_2116 : (Jvm.Cond.methodLink "TollClockModel" (249 : Nat) ({ cls := "TollClockModel", name := "argument", desc := "(I)I" } : Jvm.MethodName)) ∈ BIG := gdW9 196 (by decide +kernel) rfl
theorem bw_2118 : (Jvm.Cond.instanceMethod ({ cls := "TollClockModel", name := "argument", desc := "(I)I" } : Jvm.MethodName)) ∈ BIG := gdW9 198 (by decide +kernel) rfl
theorem bw_2119 : (Jvm.Cond.code ({ cls := "TollClockModel", name := "argument", desc := "(I)I" } : Jvm.MethodName) prog_14_method_110_code (2 : Nat) (Option.some Jvm.ClassFile.FieldType.int)) ∈ BIG := gdW9 199 (by decide +kernel) rfl
theorem bw_2120 : (Jvm.Cond.methodLink "TollClockModel" (239 : Nat) ({ cls := "TollClockModel", name := "digits", desc := "(I)I" } : Jvm.MethodName)) ∈ BIG := gdW9 200 (by decide +kernel) rfl
theorem bw_2122 : (Jvm.Cond.instanceMethod ({ cls := "TollClockModel", name := "digits", desc := "(I)I" } : Jvm.MethodName)) ∈ BIG := gdW9 202 (by decide +kernel) rfl
theorem bw_2123 : (Jvm.Cond.code ({ cls := "TollClockModel", name := "digits", desc := "(I)I" } : Jvm.MethodName) prog_14_method_109_code (4 : Nat) (Option.some Jvm.ClassFile.FieldType.int)) ∈ BIG := gdW9 203 (by decide +kernel) rfl
theorem bw_2124 : (Jvm.Cond.methodLink "TollClockModel" (236 : Nat) ({ cls := "TollClockModel", name := "isDigit", desc := "()Z" } : Jvm.MethodName)) ∈ BIG := gdW9 204 (by decide +kernel) rfl
theorem bw_2126 : (Jvm.Cond.instanceMethod ({ cls := "TollClockModel", name := "isDigit", desc := "()Z" } : Jvm.MethodName)) ∈ BIG := gdW9 206 (by decide +kernel) rfl
theorem bw_2127 : (Jvm.Cond.code ({ cls := "TollClockModel", name := "isDigit", desc := "()Z" } : Jvm.MethodName) prog_14_method_105_code (1 : Nat) (Option.some Jvm.ClassFile.FieldType.boolean)) ∈ BIG := gdW9 207 (by decide +kernel) rfl
theorem bw_2128 : (Jvm.Cond.methodLink "TollClockModel" (280 : Nat) ({ cls := "TollClockModel", name := "execute", desc := "(I)V" } : Jvm.MethodName)) ∈ BIG := gdW9 208 (by decide +kernel) rfl
theorem bw_2130 : (Jvm.Cond.instanceMethod ({ cls := "TollClockModel", name := "execute", desc := "(I)V" } : Jvm.MethodName)) ∈ BIG := gdW9 210 (by decide +kernel) rfl
theorem bw_2131 : (Jvm.Cond.code ({ cls := "TollClockModel", name := "execute", desc := "(I)V" } : Jvm.MethodName) prog_14_method_113_code (3 : Nat) (Option.none : Option Jvm.ClassFile.FieldType)) ∈ BIG := gdW9 211 (by decide +kernel) rfl
theorem bw_2132 : (Jvm.Cond.methodLink "TollClockModel" (255 : Nat) ({ cls := "TollClockModel", name := "serve", desc := "(IIC)I" } : Jvm.MethodName)) ∈ BIG := gdW9 212 (by decide +kernel) rfl
theorem bw_2133 : (Jvm.Cond.methodLink "TollClockModel" (259 : Nat) ({ cls := "TollClockModel", name := "advance", desc := "(I)I" } : Jvm.MethodName)) ∈ BIG := gdW9 213 (by decide +kernel) rfl
theorem bw_2134 : (Jvm.Cond.methodLink "TollClockModel" (262 : Nat) ({ cls := "TollClockModel", name := "stayAll", desc := "(I)I" } : Jvm.MethodName)) ∈ BIG := gdW9 214 (by decide +kernel) rfl
theorem bw_2135 : (Jvm.Cond.methodLink "TollClockModel" (265 : Nat) ({ cls := "TollClockModel", name := "lift", desc := "(I)I" } : Jvm.MethodName)) ∈ BIG := gdW9 215 (by decide +kernel) rfl
theorem bw_2136 : (Jvm.Cond.methodLink "TollClockModel" (268 : Nat) ({ cls := "TollClockModel", name := "extendByConsent", desc := "(II)I" } : Jvm.MethodName)) ∈ BIG := gdW9 216 (by decide +kernel) rfl
theorem bw_2137 : (Jvm.Cond.methodLink "TollClockModel" (271 : Nat) ({ cls := "TollClockModel", name := "file", desc := "(I)Z" } : Jvm.MethodName)) ∈ BIG := gdW9 217 (by decide +kernel) rfl
theorem bw_2138 : (Jvm.Cond.methodLink "TollClockModel" (274 : Nat) ({ cls := "TollClockModel", name := "addHoliday", desc := "(I)I" } : Jvm.MethodName)) ∈ BIG := gdW9 218 (by decide +kernel) rfl
theorem bw_2139 : (Jvm.Cond.methodLink "TollClockLaw" (405 : Nat) ({ cls := "TollClockModel", name := "errorPosition", desc := "()I" } : Jvm.MethodName)) ∈ BIG := gdW9 219 (by decide +kernel) rfl
theorem bw_2140 : (Jvm.Cond.instanceMethod ({ cls := "TollClockModel", name := "errorPosition", desc := "()I" } : Jvm.MethodName)) ∈ BIG := gdW9 220 (by decide +kernel) rfl
theorem bw_2141 : (Jvm.Cond.selects "TollClockModel" ({ cls := "TollClockModel", name := "errorPosition", desc := "()I" } : Jvm.MethodName) ({ cls := "TollClockModel", name := "errorPosition", desc := "()I" } : Jvm.MethodName)) ∈ BIG := gdW9 221 (by decide +kernel) rfl
theorem bw_2142 : (Jvm.Cond.code ({ cls := "TollClockModel", name := "errorPosition", desc := "()I" } : Jvm.MethodName) prog_14_method_115_code (1 : Nat) (Option.some Jvm.ClassFile.FieldType.int)) ∈ BIG := gdW9 222 (by decide +kernel) rfl
theorem bw_2143 : (Jvm.Cond.methodLink "TollClockLaw" (408 : Nat) ({ cls := "TollClockModel", name := "failedCommand", desc := "()I" } : Jvm.MethodName)) ∈ BIG := gdW9 223 (by decide +kernel) rfl
theorem bw_2144 : (Jvm.Cond.instanceMethod ({ cls := "TollClockModel", name := "failedCommand", desc := "()I" } : Jvm.MethodName)) ∈ BIG := gdW9 224 (by decide +kernel) rfl
theorem bw_2145 : (Jvm.Cond.selects "TollClockModel" ({ cls := "TollClockModel", name := "failedCommand", desc := "()I" } : Jvm.MethodName) ({ cls := "TollClockModel", name := "failedCommand", desc := "()I" } : Jvm.MethodName)) ∈ BIG := gdW9 225 (by decide +kernel) rfl
theorem bw_2146 : (Jvm.Cond.code ({ cls := "TollClockModel", name := "failedCommand", desc := "()I" } : Jvm.MethodName) prog_14_method_116_code (1 : Nat) (Option.some Jvm.ClassFile.FieldType.int)) ∈ BIG := gdW9 226 (by decide +kernel) rfl
theorem bw_2147 : (Jvm.Cond.arrayClass Jvm.ClassFile.FieldType.double) ∈ BIG := gdW9 227 (by decide +kernel) rfl
theorem nw_40 : (Jvm.Cond.methodLinkNest "TollClock" (11 : Nat) ({ cls := "TollClock$Text", name := "<init>", desc := "()V" } : Jvm.MethodName) "TollClock") ∈ NW := gdN1 40 (by decide +kernel) rfl
theorem nw_46 : (Jvm.Cond.fieldLinkNest "TollClock" (75 : Nat) "TollClock$Text" "length" "I" "TollClock") ∈ NW := gdN1 46 (by decide +kernel) rfl
theorem nw_47 : (Jvm.Cond.fieldLinkNest "TollClock$Program" (36 : Nat) "TollClock$Text" "length" "I" "TollClock") ∈ NW := gdN1 47 (by decide +kernel) rfl
theorem nw_56 : (Jvm.Cond.methodLinkNest "TollClock" (25 : Nat) ({ cls := "TollClock$Docket", name := "<init>", desc := "()V" } : Jvm.MethodName) "TollClock") ∈ NW := gdN1 56 (by decide +kernel) rfl
theorem nw_62 : (Jvm.Cond.methodLinkNest "TollClock$Docket" (9 : Nat) ({ cls := "TollClock$Parties", name := "<init>", desc := "()V" } : Jvm.MethodName) "TollClock") ∈ NW := gdN1 62 (by decide +kernel) rfl
theorem nw_67 : (Jvm.Cond.fieldLinkNest "TollClock" (137 : Nat) "TollClock$Parties" "points" "[I" "TollClock") ∈ NW := gdN1 67 (by decide +kernel) rfl
theorem nw_69 : (Jvm.Cond.fieldLinkNest "TollClock" (129 : Nat) "TollClock$Parties" "lengths" "[I" "TollClock") ∈ NW := gdN1 69 (by decide +kernel) rfl
theorem nw_71 : (Jvm.Cond.fieldLinkNest "TollClock" (122 : Nat) "TollClock$Parties" "count" "I" "TollClock") ∈ NW := gdN1 71 (by decide +kernel) rfl
theorem nw_82 : (Jvm.Cond.methodLinkNest "TollClock$Docket" (18 : Nat) ({ cls := "TollClock$Calendar", name := "<init>", desc := "()V" } : Jvm.MethodName) "TollClock") ∈ NW := gdN1 82 (by decide +kernel) rfl
theorem nw_87 : (Jvm.Cond.fieldLinkNest "TollClock" (152 : Nat) "TollClock$Calendar" "today" "I" "TollClock") ∈ NW := gdN1 87 (by decide +kernel) rfl
theorem nw_89 : (Jvm.Cond.fieldLinkNest "TollClock$Marks" (36 : Nat) "TollClock$Calendar" "holidays" "[I" "TollClock") ∈ NW := gdN1 89 (by decide +kernel) rfl
theorem nw_90 : (Jvm.Cond.fieldLinkNest "TollClock$Marks" (30 : Nat) "TollClock$Calendar" "holidayCount" "I" "TollClock") ∈ NW := gdN1 90 (by decide +kernel) rfl
theorem nw_92 : (Jvm.Cond.fieldLinkNest "TollClock" (187 : Nat) "TollClock$Calendar" "holidayCount" "I" "TollClock") ∈ NW := gdN1 92 (by decide +kernel) rfl
theorem nw_107 : (Jvm.Cond.fieldLinkNest "TollClock$Deadlines" (64 : Nat) "TollClock$Rules" "lengths" "[I" "TollClock") ∈ NW := gdN1 107 (by decide +kernel) rfl
theorem nw_108 : (Jvm.Cond.fieldLinkNest "TollClock" (214 : Nat) "TollClock$Rules" "lengths" "[I" "TollClock") ∈ NW := gdN1 108 (by decide +kernel) rfl
theorem nw_110 : (Jvm.Cond.fieldLinkNest "TollClock$Deadlines" (61 : Nat) "TollClock$Rules" "inCourtDays" "[Z" "TollClock") ∈ NW := gdN1 110 (by decide +kernel) rfl
theorem nw_111 : (Jvm.Cond.fieldLinkNest "TollClock" (217 : Nat) "TollClock$Rules" "inCourtDays" "[Z" "TollClock") ∈ NW := gdN1 111 (by decide +kernel) rfl
theorem nw_113 : (Jvm.Cond.fieldLinkNest "TollClock" (231 : Nat) "TollClock$Rules" "serviceDays" "[I" "TollClock") ∈ NW := gdN1 113 (by decide +kernel) rfl
theorem nw_124 : (Jvm.Cond.methodLinkNest "TollClock$Docket" (32 : Nat) ({ cls := "TollClock$Deadlines", name := "<init>", desc := "()V" } : Jvm.MethodName) "TollClock") ∈ NW := gdN1 124 (by decide +kernel) rfl
theorem nw_129 : (Jvm.Cond.fieldLinkNest "TollClock$Weeks" (35 : Nat) "TollClock$Deadlines" "parties" "[I" "TollClock") ∈ NW := gdN1 129 (by decide +kernel) rfl
theorem nw_130 : (Jvm.Cond.fieldLinkNest "TollClock$Marks" (48 : Nat) "TollClock$Deadlines" "parties" "[I" "TollClock") ∈ NW := gdN1 130 (by decide +kernel) rfl
theorem nw_131 : (Jvm.Cond.fieldLinkNest "TollClock" (446 : Nat) "TollClock$Deadlines" "parties" "[I" "TollClock") ∈ NW := gdN1 131 (by decide +kernel) rfl
theorem nw_133 : (Jvm.Cond.fieldLinkNest "TollClock$Weeks" (40 : Nat) "TollClock$Deadlines" "rules" "[I" "TollClock") ∈ NW := gdN1 133 (by decide +kernel) rfl
theorem nw_134 : (Jvm.Cond.fieldLinkNest "TollClock$Marks" (53 : Nat) "TollClock$Deadlines" "rules" "[I" "TollClock") ∈ NW := gdN1 134 (by decide +kernel) rfl
theorem nw_136 : (Jvm.Cond.fieldLinkNest "TollClock$Weeks" (70 : Nat) "TollClock$Deadlines" "startDays" "[I" "TollClock") ∈ NW := gdN1 136 (by decide +kernel) rfl
theorem nw_137 : (Jvm.Cond.fieldLinkNest "TollClock$Marks" (99 : Nat) "TollClock$Deadlines" "startDays" "[I" "TollClock") ∈ NW := gdN1 137 (by decide +kernel) rfl
theorem nw_140 : (Jvm.Cond.fieldLinkNest "TollClock$Weeks" (73 : Nat) "TollClock$Deadlines" "partCounts" "[I" "TollClock") ∈ NW := gdN1 140 (by decide +kernel) rfl
theorem nw_141 : (Jvm.Cond.fieldLinkNest "TollClock$Marks" (96 : Nat) "TollClock$Deadlines" "partCounts" "[I" "TollClock") ∈ NW := gdN1 141 (by decide +kernel) rfl
theorem nw_144 : (Jvm.Cond.fieldLinkNest "TollClock" (323 : Nat) "TollClock$Deadlines" "consents" "[I" "TollClock") ∈ NW := gdN1 144 (by decide +kernel) rfl
theorem nw_146 : (Jvm.Cond.fieldLinkNest "TollClock" (326 : Nat) "TollClock$Deadlines" "consentDays" "[I" "TollClock") ∈ NW := gdN1 146 (by decide +kernel) rfl
theorem nw_148 : (Jvm.Cond.fieldLinkNest "TollClock" (332 : Nat) "TollClock$Deadlines" "orders" "[I" "TollClock") ∈ NW := gdN1 148 (by decide +kernel) rfl
theorem nw_150 : (Jvm.Cond.fieldLinkNest "TollClock" (284 : Nat) "TollClock$Deadlines" "grantedDays" "[I" "TollClock") ∈ NW := gdN1 150 (by decide +kernel) rfl
theorem nw_152 : (Jvm.Cond.fieldLinkNest "TollClock" (293 : Nat) "TollClock$Deadlines" "states" "[C" "TollClock") ∈ NW := gdN1 152 (by decide +kernel) rfl
theorem nw_154 : (Jvm.Cond.fieldLinkNest "TollClock$Claims" (51 : Nat) "TollClock$Deadlines" "count" "I" "TollClock") ∈ NW := gdN1 154 (by decide +kernel) rfl
theorem nw_155 : (Jvm.Cond.fieldLinkNest "TollClock" (256 : Nat) "TollClock$Deadlines" "count" "I" "TollClock") ∈ NW := gdN1 155 (by decide +kernel) rfl
theorem nw_183 : (Jvm.Cond.methodLinkNest "TollClock$Docket" (39 : Nat) ({ cls := "TollClock$Stays", name := "<init>", desc := "()V" } : Jvm.MethodName) "TollClock") ∈ NW := gdN1 183 (by decide +kernel) rfl
theorem nw_190 : (Jvm.Cond.fieldLinkNest "TollClock$Weeks" (47 : Nat) "TollClock$Stays" "orderDays" "[I" "TollClock") ∈ NW := gdN1 190 (by decide +kernel) rfl
theorem nw_191 : (Jvm.Cond.fieldLinkNest "TollClock$Marks" (60 : Nat) "TollClock$Stays" "orderDays" "[I" "TollClock") ∈ NW := gdN1 191 (by decide +kernel) rfl
theorem nw_192 : (Jvm.Cond.fieldLinkNest "TollClock" (372 : Nat) "TollClock$Stays" "orderDays" "[I" "TollClock") ∈ NW := gdN1 192 (by decide +kernel) rfl
theorem nw_194 : (Jvm.Cond.fieldLinkNest "TollClock$Weeks" (50 : Nat) "TollClock$Stays" "lastDays" "[I" "TollClock") ∈ NW := gdN1 194 (by decide +kernel) rfl
theorem nw_195 : (Jvm.Cond.fieldLinkNest "TollClock$Marks" (63 : Nat) "TollClock$Stays" "lastDays" "[I" "TollClock") ∈ NW := gdN1 195 (by decide +kernel) rfl
theorem nw_196 : (Jvm.Cond.fieldLinkNest "TollClock" (369 : Nat) "TollClock$Stays" "lastDays" "[I" "TollClock") ∈ NW := gdN1 196 (by decide +kernel) rfl
theorem nw_197 : (Jvm.Cond.fieldLinkNest "TollClock$Weeks" (30 : Nat) "TollClock$Stays" "count" "I" "TollClock") ∈ NW := gdN1 197 (by decide +kernel) rfl
theorem nw_199 : (Jvm.Cond.fieldLinkNest "TollClock$Marks" (43 : Nat) "TollClock$Stays" "count" "I" "TollClock") ∈ NW := gdN1 199 (by decide +kernel) rfl
theorem nw_200 : (Jvm.Cond.fieldLinkNest "TollClock" (361 : Nat) "TollClock$Stays" "count" "I" "TollClock") ∈ NW := gdN1 200 (by decide +kernel) rfl
theorem nw_214 : (Jvm.Cond.methodLinkNest "TollClock$Docket" (46 : Nat) ({ cls := "TollClock$Claims", name := "<init>", desc := "()V" } : Jvm.MethodName) "TollClock") ∈ NW := gdN1 214 (by decide +kernel) rfl
theorem nw_219 : (Jvm.Cond.methodLinkNest "TollClock$Claims" (11 : Nat) ({ cls := "TollClock$Deadlines", name := "<init>", desc := "()V" } : Jvm.MethodName) "TollClock") ∈ NW := gdN1 219 (by decide +kernel) rfl
theorem nw_221 : (Jvm.Cond.fieldLinkNest "TollClock" (397 : Nat) "TollClock$Claims" "periods" "LTollClock$Deadlines;" "TollClock") ∈ NW := gdN1 221 (by decide +kernel) rfl
theorem nw_225 : (Jvm.Cond.fieldLinkNest "TollClock" (416 : Nat) "TollClock$Claims" "parties" "[I" "TollClock") ∈ NW := gdN1 225 (by decide +kernel) rfl
theorem nw_227 : (Jvm.Cond.fieldLinkNest "TollClock" (440 : Nat) "TollClock$Claims" "occurrences" "[I" "TollClock") ∈ NW := gdN1 227 (by decide +kernel) rfl
theorem nw_231 : (Jvm.Cond.fieldLinkNest "TollClock" (415 : Nat) "TollClock$Claims" "count" "I" "TollClock") ∈ NW := gdN1 231 (by decide +kernel) rfl
theorem nw_250 : (Jvm.Cond.fieldLinkNest "TollClock" (107 : Nat) "TollClock$Docket" "parties" "LTollClock$Parties;" "TollClock") ∈ NW := gdN2 10 (by decide +kernel) rfl
theorem nw_252 : (Jvm.Cond.fieldLinkNest "TollClock" (36 : Nat) "TollClock$Docket" "calendar" "LTollClock$Calendar;" "TollClock") ∈ NW := gdN2 12 (by decide +kernel) rfl
theorem nw_254 : (Jvm.Cond.fieldLinkNest "TollClock" (210 : Nat) "TollClock$Docket" "rules" "LTollClock$Rules;" "TollClock") ∈ NW := gdN2 14 (by decide +kernel) rfl
theorem nw_256 : (Jvm.Cond.fieldLinkNest "TollClock" (252 : Nat) "TollClock$Docket" "deadlines" "LTollClock$Deadlines;" "TollClock") ∈ NW := gdN2 16 (by decide +kernel) rfl
theorem nw_258 : (Jvm.Cond.fieldLinkNest "TollClock" (40 : Nat) "TollClock$Docket" "stays" "LTollClock$Stays;" "TollClock") ∈ NW := gdN2 18 (by decide +kernel) rfl
theorem nw_260 : (Jvm.Cond.fieldLinkNest "TollClock" (384 : Nat) "TollClock$Docket" "claims" "LTollClock$Claims;" "TollClock") ∈ NW := gdN2 20 (by decide +kernel) rfl
theorem nw_325 : (Jvm.Cond.methodLinkNest "TollClock" (63 : Nat) ({ cls := "TollClock$Program", name := "<init>", desc := "()V" } : Jvm.MethodName) "TollClock") ∈ NW := gdN2 85 (by decide +kernel) rfl
theorem nw_330 : (Jvm.Cond.fieldLinkNest "TollClock" (499 : Nat) "TollClock$Program" "verbs" "[I" "TollClock") ∈ NW := gdN2 90 (by decide +kernel) rfl
theorem nw_332 : (Jvm.Cond.fieldLinkNest "TollClock" (493 : Nat) "TollClock$Program" "firsts" "[I" "TollClock") ∈ NW := gdN2 92 (by decide +kernel) rfl
theorem nw_334 : (Jvm.Cond.fieldLinkNest "TollClock" (496 : Nat) "TollClock$Program" "seconds" "[I" "TollClock") ∈ NW := gdN2 94 (by decide +kernel) rfl
theorem nw_336 : (Jvm.Cond.fieldLinkNest "TollClock" (502 : Nat) "TollClock$Program" "ways" "[C" "TollClock") ∈ NW := gdN2 96 (by decide +kernel) rfl
theorem nw_338 : (Jvm.Cond.fieldLinkNest "TollClock" (469 : Nat) "TollClock$Program" "count" "I" "TollClock") ∈ NW := gdN2 98 (by decide +kernel) rfl
theorem nw_534 : (Jvm.Cond.methodLinkNest "TollClock$Marks" (68 : Nat) ({ cls := "TollClock", name := "isDay", desc := "(I)Z" } : Jvm.MethodName) "TollClock") ∈ NW := gdN3 54 (by decide +kernel) rfl
theorem nw_597 : (Jvm.Cond.castable "java/lang/IllegalStateException" "java/lang/IllegalStateException") ∈ NW := gdN3 117 (by decide +kernel) rfl
theorem nw_768 : (Jvm.Cond.castable "java/lang/IndexOutOfBoundsException" "java/lang/IndexOutOfBoundsException") ∈ NW := gdN4 48 (by decide +kernel) rfl
theorem nw_784 : (Jvm.Cond.castable "java/lang/IllegalArgumentException" "java/lang/IllegalArgumentException") ∈ NW := gdN4 64 (by decide +kernel) rfl
theorem nw_801 : (Jvm.Cond.castable "java/lang/UnsupportedOperationException" "java/lang/UnsupportedOperationException") ∈ NW := gdN4 81 (by decide +kernel) rfl
theorem nw_817 : (Jvm.Cond.castable "java/util/NoSuchElementException" "java/util/NoSuchElementException") ∈ NW := gdN4 97 (by decide +kernel) rfl
theorem nw_1237 : (Jvm.Cond.castable "java/lang/ArithmeticException" "java/lang/ArithmeticException") ∈ NW := gdN6 37 (by decide +kernel) rfl
theorem bs_0 : Cond.selects "TollClock" ⟨"TollClock", "findOpenDues", "()V"⟩ ⟨"TollClock", "findOpenDues", "()V"⟩ ∈ BIG := goodS 0 (by decide +kernel) rfl
theorem bs_1 : Cond.selects "TollClock$Weeks" ⟨"TollClock$Weeks", "takeStays", "(LTollClock$Deadlines;I)V"⟩ ⟨"TollClock$Weeks", "takeStays", "(LTollClock$Deadlines;I)V"⟩ ∈ BIG := goodS 1 (by decide +kernel) rfl
theorem bs_2 : Cond.selects "TollClock$Weeks" ⟨"TollClock$Weeks", "joinRange", "(II)V"⟩ ⟨"TollClock$Weeks", "joinRange", "(II)V"⟩ ∈ BIG := goodS 2 (by decide +kernel) rfl
theorem bs_3 : Cond.selects "TollClock$Weeks" ⟨"TollClock$Weeks", "dayOfCount", "(IIZ)I"⟩ ⟨"TollClock$Weeks", "dayOfCount", "(IIZ)I"⟩ ∈ BIG := goodS 3 (by decide +kernel) rfl
theorem bs_4 : Cond.selects "TollClock$Weeks" ⟨"TollClock$Weeks", "lastDayOfGap", "(I)I"⟩ ⟨"TollClock$Weeks", "lastDayOfGap", "(I)I"⟩ ∈ BIG := goodS 4 (by decide +kernel) rfl
theorem bs_5 : Cond.selects "TollClock$Weeks" ⟨"TollClock$Weeks", "countDays", "(IIZ)I"⟩ ⟨"TollClock$Weeks", "countDays", "(IIZ)I"⟩ ∈ BIG := goodS 5 (by decide +kernel) rfl
theorem bs_6 : Cond.selects "TollClock$Weeks" ⟨"TollClock$Weeks", "courtDayOfCount", "(II)I"⟩ ⟨"TollClock$Weeks", "courtDayOfCount", "(II)I"⟩ ∈ BIG := goodS 6 (by decide +kernel) rfl
theorem bs_7 : Cond.selects "TollClock$Calendar" ⟨"TollClock$Calendar", "placeOf", "(I)I"⟩ ⟨"TollClock$Calendar", "placeOf", "(I)I"⟩ ∈ BIG := goodS 7 (by decide +kernel) rfl
theorem bs_8 : Cond.selects "TollClock$Weeks" ⟨"TollClock$Weeks", "dayBehindRange", "(II)I"⟩ ⟨"TollClock$Weeks", "dayBehindRange", "(II)I"⟩ ∈ BIG := goodS 8 (by decide +kernel) rfl
theorem bs_9 : Cond.selects "TollClock$Weeks" ⟨"TollClock$Weeks", "moveEnd", "(I)I"⟩ ⟨"TollClock$Weeks", "moveEnd", "(I)I"⟩ ∈ BIG := goodS 9 (by decide +kernel) rfl
theorem bs_10 : Cond.selects "TollClock$Weeks" ⟨"TollClock$Weeks", "skipRange", "(I)I"⟩ ⟨"TollClock$Weeks", "skipRange", "(I)I"⟩ ∈ BIG := goodS 10 (by decide +kernel) rfl
theorem bs_11 : Cond.selects "TollClock" ⟨"TollClock", "deadlineAgrees", "(I)Z"⟩ ⟨"TollClock", "deadlineAgrees", "(I)Z"⟩ ∈ BIG := goodS 11 (by decide +kernel) rfl
theorem bs_12 : Cond.selects "TollClock$Marks" ⟨"TollClock$Marks", "walk", "(LTollClock$Deadlines;II)V"⟩ ⟨"TollClock$Marks", "walk", "(LTollClock$Deadlines;II)V"⟩ ∈ BIG := goodS 12 (by decide +kernel) rfl
theorem bs_13 : Cond.selects "TollClock$Marks" ⟨"TollClock$Marks", "markHolidays", "()V"⟩ ⟨"TollClock$Marks", "markHolidays", "()V"⟩ ∈ BIG := goodS 13 (by decide +kernel) rfl
theorem bs_14 : Cond.selects "TollClock$Marks" ⟨"TollClock$Marks", "markStays", "(LTollClock$Deadlines;I)V"⟩ ⟨"TollClock$Marks", "markStays", "(LTollClock$Deadlines;I)V"⟩ ∈ BIG := goodS 14 (by decide +kernel) rfl
theorem bs_15 : Cond.selects "TollClock$Marks" ⟨"TollClock$Marks", "isCourt", "(I)Z"⟩ ⟨"TollClock$Marks", "isCourt", "(I)Z"⟩ ∈ BIG := goodS 15 (by decide +kernel) rfl
theorem bs_16 : Cond.selects "TollClock$Weeks" ⟨"TollClock$Weeks", "countFree", "(IIZ)I"⟩ ⟨"TollClock$Weeks", "countFree", "(IIZ)I"⟩ ∈ BIG := goodS 16 (by decide +kernel) rfl
theorem bs_17 : Cond.selects "TollClock" ⟨"TollClock", "conductAgrees", "()Z"⟩ ⟨"TollClock", "conductAgrees", "()Z"⟩ ∈ BIG := goodS 17 (by decide +kernel) rfl
theorem bs_18 : Cond.selects "TollClock" ⟨"TollClock", "courtDaysAgree", "()Z"⟩ ⟨"TollClock", "courtDaysAgree", "()Z"⟩ ∈ BIG := goodS 18 (by decide +kernel) rfl
theorem bs_19 : Cond.selects "java/lang/Throwable" ⟨"java/lang/Throwable", "fillInStackTrace", "(I)Ljava/lang/Throwable;"⟩ ⟨"java/lang/Throwable", "fillInStackTrace", "(I)Ljava/lang/Throwable;"⟩ ∈ BIG := goodS 19 (by decide +kernel) rfl
theorem bs_20 : Cond.selects "TollClock" ⟨"TollClock", "setAside", "()V"⟩ ⟨"TollClock", "setAside", "()V"⟩ ∈ BIG := goodS 20 (by decide +kernel) rfl
theorem bs_21 : Cond.selects "TollClock" ⟨"TollClock", "tryAddParty", "()I"⟩ ⟨"TollClock", "tryAddParty", "()I"⟩ ∈ BIG := goodS 21 (by decide +kernel) rfl
theorem bs_22 : Cond.selects "TollClock$Parties" ⟨"TollClock$Parties", "isNamed", "(I[II)Z"⟩ ⟨"TollClock$Parties", "isNamed", "(I[II)Z"⟩ ∈ BIG := goodS 22 (by decide +kernel) rfl
theorem bs_23 : Cond.selects "TollClock" ⟨"TollClock", "settle", "(I)I"⟩ ⟨"TollClock", "settle", "(I)I"⟩ ∈ BIG := goodS 23 (by decide +kernel) rfl
theorem bs_24 : Cond.selects "TollClock" ⟨"TollClock", "needParty", "(I)V"⟩ ⟨"TollClock", "needParty", "(I)V"⟩ ∈ BIG := goodS 24 (by decide +kernel) rfl
theorem bs_25 : Cond.selects "TollClock" ⟨"TollClock", "tryAdvance", "(I)I"⟩ ⟨"TollClock", "tryAdvance", "(I)I"⟩ ∈ BIG := goodS 25 (by decide +kernel) rfl
theorem bs_26 : Cond.selects "TollClock" ⟨"TollClock", "tryAddHoliday", "(I)I"⟩ ⟨"TollClock", "tryAddHoliday", "(I)I"⟩ ∈ BIG := goodS 26 (by decide +kernel) rfl
theorem bs_27 : Cond.selects "TollClock" ⟨"TollClock", "tryRemoveHoliday", "(I)I"⟩ ⟨"TollClock", "tryRemoveHoliday", "(I)I"⟩ ∈ BIG := goodS 27 (by decide +kernel) rfl
theorem bs_28 : Cond.selects "TollClock" ⟨"TollClock", "trySetRule", "(IIZ)I"⟩ ⟨"TollClock", "trySetRule", "(IIZ)I"⟩ ∈ BIG := goodS 28 (by decide +kernel) rfl
theorem bs_29 : Cond.selects "TollClock" ⟨"TollClock", "trySetServiceDays", "(CI)I"⟩ ⟨"TollClock", "trySetServiceDays", "(CI)I"⟩ ∈ BIG := goodS 29 (by decide +kernel) rfl
theorem bs_30 : Cond.selects "TollClock$Weeks" ⟨"TollClock$Weeks", "dayOfCountBack", "(II)I"⟩ ⟨"TollClock$Weeks", "dayOfCountBack", "(II)I"⟩ ∈ BIG := goodS 30 (by decide +kernel) rfl
theorem bs_31 : Cond.selects "TollClock" ⟨"TollClock", "tryServe", "(IIC)I"⟩ ⟨"TollClock", "tryServe", "(IIC)I"⟩ ∈ BIG := goodS 31 (by decide +kernel) rfl
theorem bs_32 : Cond.selects "TollClock" ⟨"TollClock", "needDeadline", "(I)V"⟩ ⟨"TollClock", "needDeadline", "(I)V"⟩ ∈ BIG := goodS 32 (by decide +kernel) rfl
theorem bs_33 : Cond.selects "TollClock" ⟨"TollClock", "tryExtendByConsent", "(II)I"⟩ ⟨"TollClock", "tryExtendByConsent", "(II)I"⟩ ∈ BIG := goodS 33 (by decide +kernel) rfl
theorem bs_34 : Cond.selects "TollClock" ⟨"TollClock", "tryExtendByOrder", "(II)I"⟩ ⟨"TollClock", "tryExtendByOrder", "(II)I"⟩ ∈ BIG := goodS 34 (by decide +kernel) rfl
theorem bs_35 : Cond.selects "TollClock" ⟨"TollClock", "tryFile", "(I)I"⟩ ⟨"TollClock", "tryFile", "(I)I"⟩ ∈ BIG := goodS 35 (by decide +kernel) rfl
theorem bs_36 : Cond.selects "TollClock" ⟨"TollClock", "tryStrike", "(I)I"⟩ ⟨"TollClock", "tryStrike", "(I)I"⟩ ∈ BIG := goodS 36 (by decide +kernel) rfl
theorem bs_37 : Cond.selects "TollClock" ⟨"TollClock", "countOpenAhead", "(I)I"⟩ ⟨"TollClock", "countOpenAhead", "(I)I"⟩ ∈ BIG := goodS 37 (by decide +kernel) rfl
theorem bs_38 : Cond.selects "TollClock" ⟨"TollClock", "countOpenDueOn", "(I)I"⟩ ⟨"TollClock", "countOpenDueOn", "(I)I"⟩ ∈ BIG := goodS 38 (by decide +kernel) rfl
theorem bs_39 : Cond.selects "TollClock" ⟨"TollClock", "tryStayParty", "(II)I"⟩ ⟨"TollClock", "tryStayParty", "(II)I"⟩ ∈ BIG := goodS 39 (by decide +kernel) rfl
theorem bs_40 : Cond.selects "TollClock" ⟨"TollClock", "tryStay", "(II)I"⟩ ⟨"TollClock", "tryStay", "(II)I"⟩ ∈ BIG := goodS 40 (by decide +kernel) rfl
theorem bs_41 : Cond.selects "TollClock" ⟨"TollClock", "tryLift", "(I)I"⟩ ⟨"TollClock", "tryLift", "(I)I"⟩ ∈ BIG := goodS 41 (by decide +kernel) rfl
theorem bs_42 : Cond.selects "TollClock" ⟨"TollClock", "tryAddOccurrence", "(II)I"⟩ ⟨"TollClock", "tryAddOccurrence", "(II)I"⟩ ∈ BIG := goodS 42 (by decide +kernel) rfl
theorem bs_43 : Cond.selects "TollClock" ⟨"TollClock", "tryLinkOccurrences", "(II)I"⟩ ⟨"TollClock", "tryLinkOccurrences", "(II)I"⟩ ∈ BIG := goodS 43 (by decide +kernel) rfl
theorem bs_44 : Cond.selects "TollClock" ⟨"TollClock", "needOccurrence", "(I)V"⟩ ⟨"TollClock", "needOccurrence", "(I)V"⟩ ∈ BIG := goodS 44 (by decide +kernel) rfl
theorem bs_45 : Cond.selects "TollClock" ⟨"TollClock", "tryFileClaim", "(II)I"⟩ ⟨"TollClock", "tryFileClaim", "(II)I"⟩ ∈ BIG := goodS 45 (by decide +kernel) rfl
theorem bs_46 : Cond.selects "TollClock" ⟨"TollClock", "tryAmendClaim", "(II)I"⟩ ⟨"TollClock", "tryAmendClaim", "(II)I"⟩ ∈ BIG := goodS 46 (by decide +kernel) rfl
theorem bs_47 : Cond.selects "TollClock" ⟨"TollClock", "needClaim", "(I)V"⟩ ⟨"TollClock", "needClaim", "(I)V"⟩ ∈ BIG := goodS 47 (by decide +kernel) rfl
theorem bs_48 : Cond.selects "TollClock$Claims" ⟨"TollClock$Claims", "relatesBack", "(I)Z"⟩ ⟨"TollClock$Claims", "relatesBack", "(I)Z"⟩ ∈ BIG := goodS 48 (by decide +kernel) rfl
theorem bs_49 : Cond.selects "TollClock" ⟨"TollClock", "meetsBar", "(I)Z"⟩ ⟨"TollClock", "meetsBar", "(I)Z"⟩ ∈ BIG := goodS 49 (by decide +kernel) rfl
theorem bs_50 : Cond.selects "TollClock$Program" ⟨"TollClock$Program", "readCommand", "(LTollClock$Text;)Z"⟩ ⟨"TollClock$Program", "readCommand", "(LTollClock$Text;)Z"⟩ ∈ BIG := goodS 50 (by decide +kernel) rfl
theorem bs_51 : Cond.selects "TollClock$Program" ⟨"TollClock$Program", "readVerb", "(LTollClock$Text;)I"⟩ ⟨"TollClock$Program", "readVerb", "(LTollClock$Text;)I"⟩ ∈ BIG := goodS 51 (by decide +kernel) rfl
theorem bs_52 : Cond.selects "TollClock$Program" ⟨"TollClock$Program", "countCommon", "(LTollClock$Text;Ljava/lang/String;)I"⟩ ⟨"TollClock$Program", "countCommon", "(LTollClock$Text;Ljava/lang/String;)I"⟩ ∈ BIG := goodS 52 (by decide +kernel) rfl
theorem bs_53 : Cond.selects "TollClock$Program" ⟨"TollClock$Program", "readValues", "(LTollClock$Text;I)Z"⟩ ⟨"TollClock$Program", "readValues", "(LTollClock$Text;I)Z"⟩ ∈ BIG := goodS 53 (by decide +kernel) rfl
theorem bs_54 : Cond.selects "TollClock$Program" ⟨"TollClock$Program", "readServe", "(LTollClock$Text;)Z"⟩ ⟨"TollClock$Program", "readServe", "(LTollClock$Text;)Z"⟩ ∈ BIG := goodS 54 (by decide +kernel) rfl
theorem bs_55 : Cond.selects "TollClock$Program" ⟨"TollClock$Program", "readFirst", "(LTollClock$Text;I)Z"⟩ ⟨"TollClock$Program", "readFirst", "(LTollClock$Text;I)Z"⟩ ∈ BIG := goodS 55 (by decide +kernel) rfl
theorem bs_56 : Cond.selects "TollClock$Program" ⟨"TollClock$Program", "readNumber", "(LTollClock$Text;I)I"⟩ ⟨"TollClock$Program", "readNumber", "(LTollClock$Text;I)I"⟩ ∈ BIG := goodS 56 (by decide +kernel) rfl
theorem bs_57 : Cond.selects "TollClock$Program" ⟨"TollClock$Program", "readSign", "(LTollClock$Text;C)Z"⟩ ⟨"TollClock$Program", "readSign", "(LTollClock$Text;C)Z"⟩ ∈ BIG := goodS 57 (by decide +kernel) rfl
theorem bs_58 : Cond.selects "TollClock$Program" ⟨"TollClock$Program", "readSecond", "(LTollClock$Text;I)Z"⟩ ⟨"TollClock$Program", "readSecond", "(LTollClock$Text;I)Z"⟩ ∈ BIG := goodS 58 (by decide +kernel) rfl
theorem bs_59 : Cond.selects "TollClock$Program" ⟨"TollClock$Program", "readWay", "(LTollClock$Text;)Z"⟩ ⟨"TollClock$Program", "readWay", "(LTollClock$Text;)Z"⟩ ∈ BIG := goodS 59 (by decide +kernel) rfl
theorem bs_60 : Cond.selects "TollClock$Program" ⟨"TollClock$Program", "readDays", "(LTollClock$Text;)Z"⟩ ⟨"TollClock$Program", "readDays", "(LTollClock$Text;)Z"⟩ ∈ BIG := goodS 60 (by decide +kernel) rfl
theorem bs_61 : Cond.selects "TollClock" ⟨"TollClock", "execute", "(I)I"⟩ ⟨"TollClock", "execute", "(I)I"⟩ ∈ BIG := goodS 61 (by decide +kernel) rfl
theorem bs_62 : Cond.selects "TollClock" ⟨"TollClock", "takeBack", "()V"⟩ ⟨"TollClock", "takeBack", "()V"⟩ ∈ BIG := goodS 62 (by decide +kernel) rfl
theorem bs_63 : Cond.selects "TollClockModel" ⟨"TollClockModel", "fails", "(ZI)Z"⟩ ⟨"TollClockModel", "fails", "(ZI)Z"⟩ ∈ BIG := goodS 63 (by decide +kernel) rfl
theorem bs_64 : Cond.selects "TollClockModel" ⟨"TollClockModel", "readName", "()Z"⟩ ⟨"TollClockModel", "readName", "()Z"⟩ ∈ BIG := goodS 64 (by decide +kernel) rfl
theorem bs_65 : Cond.selects "TollClockModel" ⟨"TollClockModel", "named", "()I"⟩ ⟨"TollClockModel", "named", "()I"⟩ ∈ BIG := goodS 65 (by decide +kernel) rfl
theorem bs_66 : Cond.selects "TollClockModel" ⟨"TollClockModel", "change", "()V"⟩ ⟨"TollClockModel", "change", "()V"⟩ ∈ BIG := goodS 66 (by decide +kernel) rfl
theorem bs_67 : Cond.selects "TollClockModel" ⟨"TollClockModel", "remember", "([I)V"⟩ ⟨"TollClockModel", "remember", "([I)V"⟩ ∈ BIG := goodS 67 (by decide +kernel) rfl
theorem bs_68 : Cond.selects "TollClockModel" ⟨"TollClockModel", "noParty", "(I)Z"⟩ ⟨"TollClockModel", "noParty", "(I)Z"⟩ ∈ BIG := goodS 68 (by decide +kernel) rfl
theorem bs_69 : Cond.selects "TollClockModel" ⟨"TollClockModel", "put", "(I)V"⟩ ⟨"TollClockModel", "put", "(I)V"⟩ ∈ BIG := goodS 69 (by decide +kernel) rfl
theorem bs_70 : Cond.selects "TollClockModel" ⟨"TollClockModel", "isCourt", "(I)Z"⟩ ⟨"TollClockModel", "isCourt", "(I)Z"⟩ ∈ BIG := goodS 70 (by decide +kernel) rfl
theorem bs_71 : Cond.selects "TollClockModel" ⟨"TollClockModel", "holidayAt", "(I)I"⟩ ⟨"TollClockModel", "holidayAt", "(I)I"⟩ ∈ BIG := goodS 71 (by decide +kernel) rfl
theorem bs_72 : Cond.selects "TollClockModel" ⟨"TollClockModel", "noDeadline", "(I)Z"⟩ ⟨"TollClockModel", "noDeadline", "(I)Z"⟩ ∈ BIG := goodS 72 (by decide +kernel) rfl
theorem bs_73 : Cond.selects "TollClockModel" ⟨"TollClockModel", "dueOf", "(I)I"⟩ ⟨"TollClockModel", "dueOf", "(I)I"⟩ ∈ BIG := goodS 73 (by decide +kernel) rfl
theorem bs_74 : Cond.selects "TollClockModel" ⟨"TollClockModel", "of", "(II)I"⟩ ⟨"TollClockModel", "of", "(II)I"⟩ ∈ BIG := goodS 74 (by decide +kernel) rfl
theorem bs_75 : Cond.selects "TollClockModel" ⟨"TollClockModel", "parts", "(I)I"⟩ ⟨"TollClockModel", "parts", "(I)I"⟩ ∈ BIG := goodS 75 (by decide +kernel) rfl
theorem bs_76 : Cond.selects "TollClockModel" ⟨"TollClockModel", "partLength", "(II)I"⟩ ⟨"TollClockModel", "partLength", "(II)I"⟩ ∈ BIG := goodS 76 (by decide +kernel) rfl
theorem bs_77 : Cond.selects "TollClockModel" ⟨"TollClockModel", "endOf", "(IIIIZ)I"⟩ ⟨"TollClockModel", "endOf", "(IIIIZ)I"⟩ ∈ BIG := goodS 77 (by decide +kernel) rfl
theorem bs_78 : Cond.selects "TollClockModel" ⟨"TollClockModel", "isStoppedFor", "(III)Z"⟩ ⟨"TollClockModel", "isStoppedFor", "(III)Z"⟩ ∈ BIG := goodS 78 (by decide +kernel) rfl
theorem bs_79 : Cond.selects "TollClockModel" ⟨"TollClockModel", "leftOf", "(I)I"⟩ ⟨"TollClockModel", "leftOf", "(I)I"⟩ ∈ BIG := goodS 79 (by decide +kernel) rfl
theorem bs_80 : Cond.selects "TollClockModel" ⟨"TollClockModel", "isOpen", "(I)Z"⟩ ⟨"TollClockModel", "isOpen", "(I)Z"⟩ ∈ BIG := goodS 80 (by decide +kernel) rfl
theorem bs_81 : Cond.selects "TollClockModel" ⟨"TollClockModel", "isPast", "(I)Z"⟩ ⟨"TollClockModel", "isPast", "(I)Z"⟩ ∈ BIG := goodS 81 (by decide +kernel) rfl
theorem bs_82 : Cond.selects "TollClockModel" ⟨"TollClockModel", "grant", "(II)I"⟩ ⟨"TollClockModel", "grant", "(II)I"⟩ ∈ BIG := goodS 82 (by decide +kernel) rfl
theorem bs_83 : Cond.selects "TollClockModel" ⟨"TollClockModel", "grantedOf", "(I)I"⟩ ⟨"TollClockModel", "grantedOf", "(I)I"⟩ ∈ BIG := goodS 83 (by decide +kernel) rfl
theorem bs_84 : Cond.selects "TollClockModel" ⟨"TollClockModel", "findDues", "()V"⟩ ⟨"TollClockModel", "findDues", "()V"⟩ ∈ BIG := goodS 84 (by decide +kernel) rfl
theorem bs_85 : Cond.selects "TollClockModel" ⟨"TollClockModel", "order", "(II)I"⟩ ⟨"TollClockModel", "order", "(II)I"⟩ ∈ BIG := goodS 85 (by decide +kernel) rfl
theorem bs_86 : Cond.selects "TollClockModel" ⟨"TollClockModel", "isStoppedOf", "(II)Z"⟩ ⟨"TollClockModel", "isStoppedOf", "(II)Z"⟩ ∈ BIG := goodS 86 (by decide +kernel) rfl
theorem bs_87 : Cond.selects "TollClockModel" ⟨"TollClockModel", "noOccurrence", "(I)Z"⟩ ⟨"TollClockModel", "noOccurrence", "(I)Z"⟩ ∈ BIG := goodS 87 (by decide +kernel) rfl
theorem bs_88 : Cond.selects "TollClockModel" ⟨"TollClockModel", "conduct", "(I)I"⟩ ⟨"TollClockModel", "conduct", "(I)I"⟩ ∈ BIG := goodS 88 (by decide +kernel) rfl
theorem bs_89 : Cond.selects "TollClockModel" ⟨"TollClockModel", "barOf", "(I)I"⟩ ⟨"TollClockModel", "barOf", "(I)I"⟩ ∈ BIG := goodS 89 (by decide +kernel) rfl
theorem bs_90 : Cond.selects "TollClockModel" ⟨"TollClockModel", "claim", "(III)I"⟩ ⟨"TollClockModel", "claim", "(III)I"⟩ ∈ BIG := goodS 90 (by decide +kernel) rfl
theorem bs_91 : Cond.selects "TollClockModel" ⟨"TollClockModel", "noClaim", "(I)Z"⟩ ⟨"TollClockModel", "noClaim", "(I)Z"⟩ ∈ BIG := goodS 91 (by decide +kernel) rfl
theorem bs_92 : Cond.selects "TollClockModel" ⟨"TollClockModel", "effectiveOf", "(I)I"⟩ ⟨"TollClockModel", "effectiveOf", "(I)I"⟩ ∈ BIG := goodS 92 (by decide +kernel) rfl
theorem bs_93 : Cond.selects "TollClockModel" ⟨"TollClockModel", "isTimelyNow", "(I)Z"⟩ ⟨"TollClockModel", "isTimelyNow", "(I)Z"⟩ ∈ BIG := goodS 93 (by decide +kernel) rfl
theorem bs_94 : Cond.selects "TollClockModel" ⟨"TollClockModel", "putNumber", "(I)V"⟩ ⟨"TollClockModel", "putNumber", "(I)V"⟩ ∈ BIG := goodS 94 (by decide +kernel) rfl
theorem bs_95 : Cond.selects "TollClockModel" ⟨"TollClockModel", "readProgram", "()Z"⟩ ⟨"TollClockModel", "readProgram", "()Z"⟩ ∈ BIG := goodS 95 (by decide +kernel) rfl
theorem bs_96 : Cond.selects "TollClockModel" ⟨"TollClockModel", "command", "()V"⟩ ⟨"TollClockModel", "command", "()V"⟩ ∈ BIG := goodS 96 (by decide +kernel) rfl
theorem bs_97 : Cond.selects "TollClockModel" ⟨"TollClockModel", "isAt", "(I)Z"⟩ ⟨"TollClockModel", "isAt", "(I)Z"⟩ ∈ BIG := goodS 97 (by decide +kernel) rfl
theorem bs_98 : Cond.selects "TollClockModel" ⟨"TollClockModel", "takeWord", "(IIIIII)V"⟩ ⟨"TollClockModel", "takeWord", "(IIIIII)V"⟩ ∈ BIG := goodS 98 (by decide +kernel) rfl
theorem bs_99 : Cond.selects "TollClockModel" ⟨"TollClockModel", "take", "(I)V"⟩ ⟨"TollClockModel", "take", "(I)V"⟩ ∈ BIG := goodS 99 (by decide +kernel) rfl
theorem bs_100 : Cond.selects "TollClockModel" ⟨"TollClockModel", "takeIf", "(I)V"⟩ ⟨"TollClockModel", "takeIf", "(I)V"⟩ ∈ BIG := goodS 100 (by decide +kernel) rfl
theorem bs_101 : Cond.selects "TollClockModel" ⟨"TollClockModel", "argument", "(I)I"⟩ ⟨"TollClockModel", "argument", "(I)I"⟩ ∈ BIG := goodS 101 (by decide +kernel) rfl
theorem bs_102 : Cond.selects "TollClockModel" ⟨"TollClockModel", "digits", "(I)I"⟩ ⟨"TollClockModel", "digits", "(I)I"⟩ ∈ BIG := goodS 102 (by decide +kernel) rfl
theorem bs_103 : Cond.selects "TollClockModel" ⟨"TollClockModel", "isDigit", "()Z"⟩ ⟨"TollClockModel", "isDigit", "()Z"⟩ ∈ BIG := goodS 103 (by decide +kernel) rfl
theorem bs_104 : Cond.selects "TollClockModel" ⟨"TollClockModel", "execute", "(I)V"⟩ ⟨"TollClockModel", "execute", "(I)V"⟩ ∈ BIG := goodS 104 (by decide +kernel) rfl
theorem inB0 : ∀ w ∈ u_ws RX0 TX0 3, w ∈ BIG := goodL _ [93, 95, 97] (by decide +kernel) (by decide +kernel)
theorem inB1 : ∀ w ∈ u_ws RX1 TX1 8, w ∈ BIG := goodL _ [232, 234, 236, 238, 240, 242, 244, 246] (by decide +kernel) (by decide +kernel)
theorem inB2 : ∀ w ∈ u_ws RX2 TX2 12, w ∈ BIG := goodL _ [156, 158, 160, 162, 164, 166, 168, 170, 172, 174, 176, 178] (by decide +kernel) (by decide +kernel)
theorem inB3 : ∀ w ∈ u_ws RX3 TX3 6, w ∈ BIG := goodL _ [261, 263, 265, 267, 269, 271] (by decide +kernel) (by decide +kernel)
theorem inB4 : ∀ w ∈ u_ws RX4 TX4 6, w ∈ BIG := goodL _ [309, 311, 313, 315, 317, 319] (by decide +kernel) (by decide +kernel)
theorem inB5 : ∀ w ∈ u_ws RX5 TX5 3, w ∈ BIG := goodL _ [72, 74, 76] (by decide +kernel) (by decide +kernel)
theorem inB6 : ∀ w ∈ u_ws RX6 TX6 6, w ∈ BIG := goodL _ [340, 342, 344, 346, 348, 350] (by decide +kernel) (by decide +kernel)
theorem inB7 : ∀ w ∈ u_ws RX7 TX7 3, w ∈ BIG := goodL _ [114, 116, 118] (by decide +kernel) (by decide +kernel)
theorem inB8 : ∀ w ∈ u_ws RX8 TX8 5, w ∈ BIG := goodL _ [201, 203, 205, 207, 209] (by decide +kernel) (by decide +kernel)
theorem inB9 : ∀ w ∈ u_ws RX9 TX9 2, w ∈ BIG := goodL _ [48, 50] (by decide +kernel) (by decide +kernel)
theorem inB10 : ∀ w ∈ u_ws RX10 TX10 5, w ∈ BIG := goodL _ [286, 288, 290, 292, 294] (by decide +kernel) (by decide +kernel)
theorem inB11 : ∀ w ∈ u_ws RX11 TX11 13, w ∈ BIG := goodL _ [366, 368, 370, 372, 374, 376, 378, 380, 382, 384, 386, 388, 390] (by decide +kernel) (by decide +kernel)
theorem inB12 : ∀ w ∈ u_ws RX12 TX12 19, w ∈ BIG := goodL _ [1640, 1642, 1644, 1646, 1648, 1650, 1652, 1654, 1656, 1658, 1660, 1662, 1664, 1666, 1668, 1670, 1672, 1674, 1676] (by decide +kernel) (by decide +kernel)
def mX0_init : mM := (yX0_init, cX0_init, 1, RX0, none, (8, 200, 1, 215), 0, [])
def mX0_copy : mM := (yX0_copy, cX0_copy, 2, RX0, none, (8, 200, 0, 0), 76, [])
def mX0_isHoliday : mM := (yX0_isHoliday, cX0_isHoliday, 2, RX0, (some .boolean), (9, 222, 0, 0), 76, [])
def mX0_isCourt : mM := (yX0_isCourt, cX0_isCourt, 2, RX0, (some .boolean), (9, 222, 0, 0), 76, [])
def mX0_insertHoliday : mM := (yX0_insertHoliday, cX0_insertHoliday, 2, RX0, none, (8, 200, 0, 0), 76, [])
def mX0_deleteHoliday : mM := (yX0_deleteHoliday, cX0_deleteHoliday, 3, RX0, none, (9, 222, 0, 0), 76, [])
def mX0_placeOf : mM := (yX0_placeOf, cX0_placeOf, 3, RX0, (some .int), (8, 200, 0, 0), 76, [])
def mX0_countCourt : mM := (yX0_countCourt, cX0_countCourt, 7, RX0, (some .int), (8, 200, 0, 0), 76, [])
def mX1_init : mM := (yX1_init, cX1_init, 1, RX1, none, (9, 220, 18, 3667), 0, [])
def mX1_copy : mM := (yX1_copy, cX1_copy, 2, RX1, none, (9, 221, 0, 0), 76, [])
def mX1_has : mM := (yX1_has, cX1_has, 2, RX1, (some .boolean), (8, 200, 0, 0), 76, [])
def mX1_keepOccurrence : mM := (yX1_keepOccurrence, cX1_keepOccurrence, 5, RX1, (some .int), (10, 247, 0, 0), 76, [])
def mX1_areLinked : mM := (yX1_areLinked, cX1_areLinked, 3, RX1, (some .boolean), (8, 200, 0, 0), 76, [])
def mX1_link : mM := (yX1_link, cX1_link, 6, RX1, none, (8, 200, 0, 0), 76, [])
def mX1_countGroups : mM := (yX1_countGroups, cX1_countGroups, 3, RX1, (some .int), (8, 200, 0, 0), 76, [])
def mX1_inSameGroup : mM := (yX1_inSameGroup, cX1_inSameGroup, 3, RX1, (some .boolean), (8, 200, 0, 0), 76, [])
def mX1_isReached : mM := (yX1_isReached, cX1_isReached, 3, RX1, (some .boolean), (21, 825, 0, 0), 76, [])
def mX1_visit : mM := (yX1_visit, cX1_visit, 6, RX1, (some .int), (20, 800, 0, 0), 76, [])
def mX1_addClaim : mM := (yX1_addClaim, cX1_addClaim, 5, RX1, (some .int), (8, 200, 0, 0), 76, [])
def mX1_effectiveDayOf : mM := (yX1_effectiveDayOf, cX1_effectiveDayOf, 4, RX1, (some .int), (10, 244, 0, 0), 76, [])
def mX1_relatesBack : mM := (yX1_relatesBack, cX1_relatesBack, 3, RX1, (some .boolean), (9, 222, 0, 0), 76, [])
def mX2_init : mM := (yX2_init, cX2_init, 1, RX2, none, (8, 200, 11, 2365), 0, [])
def mX2_copy : mM := (yX2_copy, cX2_copy, 2, RX2, none, (8, 200, 0, 0), 76, [])
def mX2_has : mM := (yX2_has, cX2_has, 2, RX2, (some .boolean), (8, 200, 0, 0), 76, [])
def mX2_isOpen : mM := (yX2_isOpen, cX2_isOpen, 2, RX2, (some .boolean), (8, 200, 0, 0), 76, [])
def mX2_countOpen : mM := (yX2_countOpen, cX2_countOpen, 3, RX2, (some .int), (9, 221, 0, 0), 76, [])
def mX2_add : mM := (yX2_add, cX2_add, 6, RX2, (some .int), (9, 222, 0, 0), 76, [])
def mX2_addPart : mM := (yX2_addPart, cX2_addPart, 3, RX2, none, (8, 200, 0, 0), 76, [])
def mX2_grant : mM := (yX2_grant, cX2_grant, 3, RX2, (some .int), (9, 222, 0, 0), 76, [])
def mX2_lengthOfPart : mM := (yX2_lengthOfPart, cX2_lengthOfPart, 3, RX2, (some .int), (8, 200, 0, 0), 76, [])
def mX2_partCountsCourt : mM := (yX2_partCountsCourt, cX2_partCountsCourt, 3, RX2, (some .boolean), (8, 200, 0, 0), 76, [])
def mX2_sumOfParts : mM := (yX2_sumOfParts, cX2_sumOfParts, 4, RX2, (some .int), (9, 222, 0, 0), 76, [])
def mX3_init : mM := (yX3_init, cX3_init, 1, RX3, none, (10, 240, 45, 8216), 0, [])
def mX3_copy : mM := (yX3_copy, cX3_copy, 2, RX3, none, (10, 242, 0, 0), 76, [])
def mX4_init : mM := (yX4_init, cX4_init, 3, RX4, none, (8, 200, 2, 430), 0, [])
def mX4_markHolidays : mM := (yX4_markHolidays, cX4_markHolidays, 2, RX4, none, (9, 224, 0, 0), 76, [])
def mX4_markStays : mM := (yX4_markStays, cX4_markStays, 4, RX4, none, (9, 224, 0, 0), 76, [])
def mX4_clear : mM := (yX4_clear, cX4_clear, 2, RX4, none, (8, 200, 0, 0), 76, [])
def mX4_mark : mM := (yX4_mark, cX4_mark, 5, RX4, none, (8, 200, 0, 0), 76, [])
def mX4_isMarked : mM := (yX4_isMarked, cX4_isMarked, 2, RX4, (some .boolean), (9, 220, 0, 0), 76, [])
def mX4_isCourt : mM := (yX4_isCourt, cX4_isCourt, 2, RX4, (some .boolean), (10, 241, 0, 0), 76, [])
def mX4_countCourt : mM := (yX4_countCourt, cX4_countCourt, 5, RX4, (some .int), (11, 262, 0, 0), 76, [])
def mX4_countStopped : mM := (yX4_countStopped, cX4_countStopped, 7, RX4, (some .int), (10, 247, 0, 0), 76, [])
def mX4_endOf : mM := (yX4_endOf, cX4_endOf, 3, RX4, (some .int), (12, 291, 0, 0), 76, [])
def mX4_countedUntil : mM := (yX4_countedUntil, cX4_countedUntil, 4, RX4, (some .int), (12, 291, 0, 0), 76, [])
def mX4_walk : mM := (yX4_walk, cX4_walk, 10, RX4, none, (11, 262, 0, 0), 76, [])
def mX4_countBack : mM := (yX4_countBack, cX4_countBack, 7, RX4, (some .int), (11, 262, 0, 0), 76, [])
def mX5_init : mM := (yX5_init, cX5_init, 1, RX5, none, (8, 200, 2, 430), 0, [])
def mX5_copy : mM := (yX5_copy, cX5_copy, 2, RX5, none, (8, 200, 0, 0), 76, [])
def mX5_has : mM := (yX5_has, cX5_has, 2, RX5, (some .boolean), (8, 200, 0, 0), 76, [])
def mX5_add : mM := (yX5_add, cX5_add, 3, RX5, (some .int), (8, 200, 0, 0), 76, [])
def mX5_find : mM := (yX5_find, cX5_find, 4, RX5, (some .int), (9, 224, 0, 0), 76, [])
def mX5_isNamed : mM := (yX5_isNamed, cX5_isNamed, 5, RX5, (some .boolean), (8, 200, 0, 0), 76, [])
def mX6_init : mM := (yX6_init, cX6_init, 1, RX6, none, (8, 200, 4, 860), 0, [])
def mX6_parse : mM := (yX6_parse, cX6_parse, 4, RX6, (some .int), (14, 334, 0, 0), 76, [])
def mX6_readCommand : mM := (yX6_readCommand, cX6_readCommand, 4, RX6, (some .boolean), (13, 311, 0, 0), 76, [])
def mX6_readVerb : mM := (yX6_readVerb, cX6_readVerb, 6, RX6, (some .int), (10, 244, 0, 0), 76, [])
def mX6_wordOf : mM := (yX6_wordOf, cX6_wordOf, 1, RX6, (some (.object "java/lang/String")), (8, 200, 0, 0), 76, [])
def mX6_countCommon : mM := (yX6_countCommon, cX6_countCommon, 4, RX6, (some .int), (9, 221, 0, 0), 76, [])
def mX6_readValues : mM := (yX6_readValues, cX6_readValues, 3, RX6, (some .boolean), (12, 289, 0, 0), 76, [])
def mX6_readServe : mM := (yX6_readServe, cX6_readServe, 2, RX6, (some .boolean), (11, 268, 0, 0), 76, [])
def mX6_readDays : mM := (yX6_readDays, cX6_readDays, 2, RX6, (some .boolean), (11, 268, 0, 0), 76, [])
def mX6_readFirst : mM := (yX6_readFirst, cX6_readFirst, 3, RX6, (some .boolean), (10, 246, 0, 0), 76, [])
def mX6_readSecond : mM := (yX6_readSecond, cX6_readSecond, 3, RX6, (some .boolean), (10, 246, 0, 0), 76, [])
def mX6_readNumber : mM := (yX6_readNumber, cX6_readNumber, 6, RX6, (some .int), (9, 221, 0, 0), 76, [])
def mX6_readWay : mM := (yX6_readWay, cX6_readWay, 3, RX6, (some .boolean), (9, 221, 0, 0), 76, [])
def mX6_readSign : mM := (yX6_readSign, cX6_readSign, 3, RX6, (some .boolean), (9, 221, 0, 0), 76, [])
def mX7_init : mM := (yX7_init, cX7_init, 2, RX7, none, (8, 200, 3, 645), 0, [])
def mX7_copy : mM := (yX7_copy, cX7_copy, 2, RX7, none, (8, 200, 0, 0), 76, [])
def mX7_placeOfWay : mM := (yX7_placeOfWay, cX7_placeOfWay, 1, RX7, (some .int), (8, 200, 0, 0), 76, [])
def mX8_init : mM := (yX8_init, cX8_init, 1, RX8, none, (8, 200, 4, 860), 0, [])
def mX8_copy : mM := (yX8_copy, cX8_copy, 2, RX8, none, (8, 200, 0, 0), 76, [])
def mX8_has : mM := (yX8_has, cX8_has, 2, RX8, (some .boolean), (8, 200, 0, 0), 76, [])
def mX8_add : mM := (yX8_add, cX8_add, 4, RX8, (some .int), (8, 200, 0, 0), 76, [])
def mX8_isInForce : mM := (yX8_isInForce, cX8_isInForce, 2, RX8, (some .boolean), (8, 200, 0, 0), 76, [])
def mX8_countInForce : mM := (yX8_countInForce, cX8_countInForce, 3, RX8, (some .int), (9, 221, 0, 0), 76, [])
def mX8_concerns : mM := (yX8_concerns, cX8_concerns, 5, RX8, (some .boolean), (8, 200, 0, 0), 76, [])
def mX9_init : mM := (yX9_init, cX9_init, 1, RX9, none, (8, 200, 1, 215), 0, [])
def mX9_clear : mM := (yX9_clear, cX9_clear, 1, RX9, none, (8, 200, 0, 0), 76, [])
def mX9_append : mM := (yX9_append, cX9_append, 2, RX9, none, (8, 200, 0, 0), 76, [])
def mX9_appendCodePoint : mM := (yX9_appendCodePoint, cX9_appendCodePoint, 2, RX9, none, (9, 221, 0, 0), 76, [])
def mX9_appendNumber : mM := (yX9_appendNumber, cX9_appendNumber, 3, RX9, none, (9, 221, 0, 0), 76, [])
def mX9_signAt : mM := (yX9_signAt, cX9_signAt, 2, RX9, (some .char), (8, 200, 0, 0), 76, [])
def mX9_readName : mM := (yX9_readName, cX9_readName, 6, RX9, (some .int), (9, 221, 0, 0), 76, [])
def mX9_isHigh : mM := (yX9_isHigh, cX9_isHigh, 1, RX9, (some .boolean), (8, 200, 0, 0), 76, [])
def mX9_isLow : mM := (yX9_isLow, cX9_isLow, 1, RX9, (some .boolean), (8, 200, 0, 0), 76, [])
def mX9_joinPair : mM := (yX9_joinPair, cX9_joinPair, 2, RX9, (some .int), (8, 200, 0, 0), 76, [])
def mX10_init : mM := (yX10_init, cX10_init, 3, RX10, none, (8, 200, 2, 430), 0, [])
def mX10_takeStays : mM := (yX10_takeStays, cX10_takeStays, 4, RX10, none, (9, 224, 0, 0), 76, [])
def mX10_joinRange : mM := (yX10_joinRange, cX10_joinRange, 3, RX10, none, (8, 200, 0, 0), 76, [])
def mX10_countStopped : mM := (yX10_countStopped, cX10_countStopped, 9, RX10, (some .int), (10, 247, 0, 0), 76, [])
def mX10_endOf : mM := (yX10_endOf, cX10_endOf, 6, RX10, (some .int), (12, 295, 0, 0), 76, [])
def mX10_countedUntil : mM := (yX10_countedUntil, cX10_countedUntil, 10, RX10, (some .int), (12, 295, 0, 0), 76, [])
def mX10_dayOfCount : mM := (yX10_dayOfCount, cX10_dayOfCount, 8, RX10, (some .int), (11, 268, 0, 0), 76, [])
def mX10_countFree : mM := (yX10_countFree, cX10_countFree, 7, RX10, (some .int), (10, 249, 0, 0), 76, [])
def mX10_lastDayOfGap : mM := (yX10_lastDayOfGap, cX10_lastDayOfGap, 2, RX10, (some .int), (8, 200, 0, 0), 76, [])
def mX10_dayBehindRange : mM := (yX10_dayBehindRange, cX10_dayBehindRange, 3, RX10, (some .int), (8, 200, 0, 0), 76, [])
def mX10_countDays : mM := (yX10_countDays, cX10_countDays, 4, RX10, (some .int), (9, 226, 0, 0), 76, [])
def mX10_courtDayOfCount : mM := (yX10_courtDayOfCount, cX10_courtDayOfCount, 6, RX10, (some .int), (10, 243, 0, 0), 76, [])
def mX10_moveEnd : mM := (yX10_moveEnd, cX10_moveEnd, 4, RX10, (some .int), (10, 243, 0, 0), 76, [])
def mX10_skipRange : mM := (yX10_skipRange, cX10_skipRange, 3, RX10, (some .int), (8, 200, 0, 0), 76, [])
def mX10_countBack : mM := (yX10_countBack, cX10_countBack, 5, RX10, (some .int), (11, 268, 0, 0), 76, [])
def mX10_dayOfCountBack : mM := (yX10_dayOfCountBack, cX10_dayOfCountBack, 6, RX10, (some .int), (10, 243, 0, 0), 76, [])
def mX11_init : mM := (yX11_init, cX11_init, 1, RX11, none, (11, 260, 64, 11038), 0, [])
def mX11_type : mM := (yX11_type, cX11_type, 2, RX11, (some .int), (9, 221, 1, 6), 76, [])
def mX11_addParty : mM := (yX11_addParty, cX11_addParty, 1, RX11, (some .int), (12, 284, 47, 8228), 76, [])
def mX11_findParty : mM := (yX11_findParty, cX11_findParty, 3, RX11, (some .int), (10, 247, 1, 6), 76, [])
def mX11_parties : mM := (yX11_parties, cX11_parties, 1, RX11, (some .int), (8, 200, 0, 0), 76, [])
def mX11_nameLength : mM := (yX11_nameLength, cX11_nameLength, 2, RX11, (some .int), (10, 242, 1, 6), 76, [])
def mX11_nameCodePoint : mM := (yX11_nameCodePoint, cX11_nameCodePoint, 3, RX11, (some .int), (10, 242, 2, 12), 76, [])
def mX11_writeNameReversed : mM := (yX11_writeNameReversed, cX11_writeNameReversed, 3, RX11, (some .int), (10, 242, 1, 6), 76, [])
def mX11_tryAddParty : mM := (yX11_tryAddParty, cX11_tryAddParty, 2, RX11, (some .int), (10, 247, 0, 0), 76, [])
def mX11_needParty : mM := (yX11_needParty, cX11_needParty, 2, RX11, none, (9, 221, 1, 6), 76, [])
def mX11_today : mM := (yX11_today, cX11_today, 1, RX11, (some .int), (8, 200, 0, 0), 76, [])
def mX11_advance : mM := (yX11_advance, cX11_advance, 2, RX11, (some .int), (12, 284, 47, 8228), 76, [])
def mX11_weekday : mM := (yX11_weekday, cX11_weekday, 2, RX11, (some .int), (10, 240, 1, 6), 76, [])
def mX11_isCourtDay : mM := (yX11_isCourtDay, cX11_isCourtDay, 2, RX11, (some .boolean), (10, 243, 1, 6), 76, [])
def mX11_addHoliday : mM := (yX11_addHoliday, cX11_addHoliday, 2, RX11, (some .int), (12, 284, 47, 8228), 76, [])
def mX11_removeHoliday : mM := (yX11_removeHoliday, cX11_removeHoliday, 2, RX11, (some .int), (12, 284, 47, 8228), 76, [])
def mX11_courtDays : mM := (yX11_courtDays, cX11_courtDays, 3, RX11, (some .int), (10, 241, 1, 6), 76, [])
def mX11_courtDaysByMarking : mM := (yX11_courtDaysByMarking, cX11_courtDaysByMarking, 3, RX11, (some .int), (12, 286, 1, 6), 76, [])
def mX11_tryAdvance : mM := (yX11_tryAdvance, cX11_tryAdvance, 2, RX11, (some .int), (8, 200, 0, 0), 76, [])
def mX11_tryAddHoliday : mM := (yX11_tryAddHoliday, cX11_tryAddHoliday, 2, RX11, (some .int), (10, 243, 0, 0), 76, [])
def mX11_tryRemoveHoliday : mM := (yX11_tryRemoveHoliday, cX11_tryRemoveHoliday, 2, RX11, (some .int), (10, 244, 0, 0), 76, [])
def mX11_isDay : mM := (yX11_isDay, cX11_isDay, 1, RX11, (some .boolean), (8, 200, 0, 0), 76, [])
def mX11_needDay : mM := (yX11_needDay, cX11_needDay, 1, RX11, none, (9, 220, 1, 6), 76, [])
def mX11_needRange : mM := (yX11_needRange, cX11_needRange, 2, RX11, none, (9, 220, 1, 6), 76, [])
def mX11_setRule : mM := (yX11_setRule, cX11_setRule, 4, RX11, (some .int), (12, 284, 47, 8228), 76, [])
def mX11_ruleLength : mM := (yX11_ruleLength, cX11_ruleLength, 2, RX11, (some .int), (10, 240, 1, 6), 76, [])
def mX11_countsCourtDays : mM := (yX11_countsCourtDays, cX11_countsCourtDays, 2, RX11, (some .boolean), (10, 240, 1, 6), 76, [])
def mX11_setServiceDays : mM := (yX11_setServiceDays, cX11_setServiceDays, 3, RX11, (some .int), (12, 284, 47, 8228), 76, [])
def mX11_serviceDays : mM := (yX11_serviceDays, cX11_serviceDays, 3, RX11, (some .int), (9, 220, 1, 6), 76, [])
def mX11_lastDayBefore : mM := (yX11_lastDayBefore, cX11_lastDayBefore, 3, RX11, (some .int), (12, 292, 3, 18), 76, [])
def mX11_lastDayBeforeByMarking : mM := (yX11_lastDayBeforeByMarking, cX11_lastDayBeforeByMarking, 3, RX11, (some .int), (12, 288, 3, 18), 76, [])
def mX11_trySetRule : mM := (yX11_trySetRule, cX11_trySetRule, 5, RX11, (some .int), (9, 220, 0, 0), 76, [])
def mX11_trySetServiceDays : mM := (yX11_trySetServiceDays, cX11_trySetServiceDays, 5, RX11, (some .int), (9, 220, 0, 0), 76, [])
def mX11_isRule : mM := (yX11_isRule, cX11_isRule, 1, RX11, (some .boolean), (8, 200, 0, 0), 76, [])
def mX11_needRule : mM := (yX11_needRule, cX11_needRule, 1, RX11, none, (9, 220, 1, 6), 76, [])
def mX11_needNotBeforeDayZero : mM := (yX11_needNotBeforeDayZero, cX11_needNotBeforeDayZero, 1, RX11, (some .int), (8, 200, 1, 6), 76, [])
def mX11_serve : mM := (yX11_serve, cX11_serve, 4, RX11, (some .int), (12, 284, 47, 8228), 76, [])
def mX11_deadlines : mM := (yX11_deadlines, cX11_deadlines, 1, RX11, (some .int), (8, 200, 0, 0), 76, [])
def mX11_due : mM := (yX11_due, cX11_due, 2, RX11, (some .int), (13, 320, 2, 12), 76, [])
def mX11_dueByMarking : mM := (yX11_dueByMarking, cX11_dueByMarking, 2, RX11, (some .int), (13, 313, 2, 12), 76, [])
def mX11_daysLeft : mM := (yX11_daysLeft, cX11_daysLeft, 2, RX11, (some .int), (13, 324, 1, 6), 76, [])
def mX11_daysLeftByMarking : mM := (yX11_daysLeftByMarking, cX11_daysLeftByMarking, 2, RX11, (some .int), (13, 314, 1, 6), 76, [])
def mX11_extendByConsent : mM := (yX11_extendByConsent, cX11_extendByConsent, 3, RX11, (some .int), (14, 342, 47, 8228), 76, [])
def mX11_extendByOrder : mM := (yX11_extendByOrder, cX11_extendByOrder, 3, RX11, (some .int), (12, 284, 47, 8228), 76, [])
def mX11_extensionDays : mM := (yX11_extensionDays, cX11_extensionDays, 2, RX11, (some .int), (10, 242, 1, 6), 76, [])
def mX11_file : mM := (yX11_file, cX11_file, 2, RX11, (some .boolean), (14, 342, 47, 8228), 76, [])
def mX11_strike : mM := (yX11_strike, cX11_strike, 2, RX11, (some .int), (12, 284, 47, 8228), 76, [])
def mX11_status : mM := (yX11_status, cX11_status, 2, RX11, (some .char), (10, 242, 1, 6), 76, [])
def mX11_openAt : mM := (yX11_openAt, cX11_openAt, 3, RX11, (some .int), (14, 341, 1, 6), 76, [])
def mX11_overdue : mM := (yX11_overdue, cX11_overdue, 3, RX11, (some .int), (14, 341, 0, 0), 76, [])
def mX11_busiestDay : mM := (yX11_busiestDay, cX11_busiestDay, 6, RX11, (some .int), (14, 341, 1, 6), 76, [])
def mX11_meanDaysLeft : mM := (yX11_meanDaysLeft, cX11_meanDaysLeft, 4, RX11, (some .double), (13, 324, 1, 6), 76, [])
def mX11_tryServe : mM := (yX11_tryServe, cX11_tryServe, 6, RX11, (some .int), (10, 247, 0, 0), 76, [])
def mX11_tryExtendByConsent : mM := (yX11_tryExtendByConsent, cX11_tryExtendByConsent, 3, RX11, (some .int), (13, 320, 0, 0), 76, [])
def mX11_tryExtendByOrder : mM := (yX11_tryExtendByOrder, cX11_tryExtendByOrder, 3, RX11, (some .int), (10, 244, 0, 0), 76, [])
def mX11_tryFile : mM := (yX11_tryFile, cX11_tryFile, 3, RX11, (some .int), (13, 320, 0, 0), 76, [])
def mX11_tryStrike : mM := (yX11_tryStrike, cX11_tryStrike, 2, RX11, (some .int), (10, 243, 0, 0), 76, [])
def mX11_needDeadline : mM := (yX11_needDeadline, cX11_needDeadline, 2, RX11, none, (9, 221, 1, 6), 76, [])
def mX11_needSomeDay : mM := (yX11_needSomeDay, cX11_needSomeDay, 1, RX11, (some .int), (8, 200, 1, 6), 76, [])
def mX11_findOpenDues : mM := (yX11_findOpenDues, cX11_findOpenDues, 2, RX11, none, (13, 320, 0, 0), 76, [])
def mX11_countOpenAhead : mM := (yX11_countOpenAhead, cX11_countOpenAhead, 5, RX11, (some .int), (9, 221, 0, 0), 76, [])
def mX11_countOpenDueOn : mM := (yX11_countOpenDueOn, cX11_countOpenDueOn, 4, RX11, (some .int), (9, 221, 0, 0), 76, [])
def mX11_stayParty : mM := (yX11_stayParty, cX11_stayParty, 3, RX11, (some .int), (12, 284, 47, 8228), 76, [])
def mX11_stayAll : mM := (yX11_stayAll, cX11_stayAll, 2, RX11, (some .int), (12, 284, 47, 8228), 76, [])
def mX11_lift : mM := (yX11_lift, cX11_lift, 2, RX11, (some .int), (12, 284, 47, 8228), 76, [])
def mX11_staysInForce : mM := (yX11_staysInForce, cX11_staysInForce, 1, RX11, (some .int), (10, 243, 0, 0), 76, [])
def mX11_isStopped : mM := (yX11_isStopped, cX11_isStopped, 3, RX11, (some .boolean), (11, 275, 2, 12), 76, [])
def mX11_stoppedDays : mM := (yX11_stoppedDays, cX11_stoppedDays, 4, RX11, (some .int), (11, 275, 2, 12), 76, [])
def mX11_stoppedDaysByMarking : mM := (yX11_stoppedDaysByMarking, cX11_stoppedDaysByMarking, 4, RX11, (some .int), (11, 273, 2, 12), 76, [])
def mX11_tryStayParty : mM := (yX11_tryStayParty, cX11_tryStayParty, 3, RX11, (some .int), (10, 245, 0, 0), 76, [])
def mX11_tryStay : mM := (yX11_tryStay, cX11_tryStay, 3, RX11, (some .int), (9, 223, 0, 0), 76, [])
def mX11_tryLift : mM := (yX11_tryLift, cX11_tryLift, 2, RX11, (some .int), (9, 221, 0, 0), 76, [])
def mX11_addOccurrence : mM := (yX11_addOccurrence, cX11_addOccurrence, 3, RX11, (some .int), (12, 293, 47, 8228), 76, [])
def mX11_linkOccurrences : mM := (yX11_linkOccurrences, cX11_linkOccurrences, 3, RX11, (some .int), (12, 284, 47, 8228), 76, [])
def mX11_sameConduct : mM := (yX11_sameConduct, cX11_sameConduct, 3, RX11, (some .boolean), (10, 242, 2, 12), 76, [])
def mX11_sameConductBySearch : mM := (yX11_sameConductBySearch, cX11_sameConductBySearch, 3, RX11, (some .boolean), (22, 847, 2, 12), 76, [])
def mX11_barDay : mM := (yX11_barDay, cX11_barDay, 2, RX11, (some .int), (13, 320, 2, 12), 76, [])
def mX11_fileClaim : mM := (yX11_fileClaim, cX11_fileClaim, 3, RX11, (some .int), (12, 284, 47, 8228), 76, [])
def mX11_amendClaim : mM := (yX11_amendClaim, cX11_amendClaim, 3, RX11, (some .int), (12, 284, 47, 8228), 76, [])
def mX11_effectiveDay : mM := (yX11_effectiveDay, cX11_effectiveDay, 2, RX11, (some .int), (11, 267, 1, 6), 76, [])
def mX11_isTimely : mM := (yX11_isTimely, cX11_isTimely, 2, RX11, (some .boolean), (14, 342, 1, 6), 76, [])
def mX11_timelyClaims : mM := (yX11_timelyClaims, cX11_timelyClaims, 4, RX11, (some .int), (14, 342, 1, 6), 76, [])
def mX11_tryAddOccurrence : mM := (yX11_tryAddOccurrence, cX11_tryAddOccurrence, 3, RX11, (some .int), (11, 271, 0, 0), 76, [])
def mX11_tryLinkOccurrences : mM := (yX11_tryLinkOccurrences, cX11_tryLinkOccurrences, 3, RX11, (some .int), (9, 225, 0, 0), 76, [])
def mX11_tryFileClaim : mM := (yX11_tryFileClaim, cX11_tryFileClaim, 3, RX11, (some .int), (9, 224, 0, 0), 76, [])
def mX11_tryAmendClaim : mM := (yX11_tryAmendClaim, cX11_tryAmendClaim, 3, RX11, (some .int), (9, 224, 0, 0), 76, [])
def mX11_needOccurrence : mM := (yX11_needOccurrence, cX11_needOccurrence, 2, RX11, none, (9, 221, 1, 6), 76, [])
def mX11_needClaim : mM := (yX11_needClaim, cX11_needClaim, 2, RX11, none, (9, 221, 1, 6), 76, [])
def mX11_meetsBar : mM := (yX11_meetsBar, cX11_meetsBar, 3, RX11, (some .boolean), (13, 320, 0, 0), 76, [])
def mX11_writeDeadline : mM := (yX11_writeDeadline, cX11_writeDeadline, 3, RX11, (some .int), (13, 320, 1, 6), 76, [])
def mX11_charAt : mM := (yX11_charAt, cX11_charAt, 2, RX11, (some .char), (9, 221, 1, 6), 76, [])
def mX11_isConsistent : mM := (yX11_isConsistent, cX11_isConsistent, 2, RX11, (some .boolean), (23, 869, 0, 0), 76, [])
def mX11_deadlineAgrees : mM := (yX11_deadlineAgrees, cX11_deadlineAgrees, 4, RX11, (some .boolean), (13, 324, 0, 0), 76, [])
def mX11_conductAgrees : mM := (yX11_conductAgrees, cX11_conductAgrees, 3, RX11, (some .boolean), (22, 847, 0, 0), 76, [])
def mX11_courtDaysAgree : mM := (yX11_courtDaysAgree, cX11_courtDaysAgree, 2, RX11, (some .boolean), (12, 286, 0, 0), 76, [])
def mX11_run : mM := (yX11_run, cX11_run, 3, RX11, (some .int), (15, 365, 48, 8234), 76, [])
def mX11_errorPosition : mM := (yX11_errorPosition, cX11_errorPosition, 1, RX11, (some .int), (8, 200, 1, 6), 76, [])
def mX11_failedCommand : mM := (yX11_failedCommand, cX11_failedCommand, 1, RX11, (some .int), (8, 200, 1, 6), 76, [])
def mX11_undo : mM := (yX11_undo, cX11_undo, 1, RX11, (some .int), (12, 284, 1, 6), 76, [])
def mX11_execute : mM := (yX11_execute, cX11_execute, 4, RX11, (some .int), (14, 342, 0, 0), 76, [])
def mX11_setAside : mM := (yX11_setAside, cX11_setAside, 2, RX11, none, (11, 263, 46, 8222), 76, [])
def mX11_takeBack : mM := (yX11_takeBack, cX11_takeBack, 2, RX11, none, (11, 263, 0, 0), 76, [])
def mX11_settle : mM := (yX11_settle, cX11_settle, 2, RX11, (some .int), (8, 200, 1, 6), 76, [])
def mX12_init : mM := (yX12_init, cX12_init, 2, RX12, none, (8, 200, 8, 56000), 0, [])
def mX12_thrown : mM := (yX12_thrown, cX12_thrown, 1, RX12, (some .int), (8, 200, 0, 0), 76, [])
def mX12_in : mM := (yX12_in, cX12_in, 3, RX12, (some .boolean), (8, 200, 0, 0), 76, [])
def mX12_fails : mM := (yX12_fails, cX12_fails, 3, RX12, (some .boolean), (8, 200, 0, 0), 76, [])
def mX12_remember : mM := (yX12_remember, cX12_remember, 3, RX12, none, (8, 200, 0, 0), 76, [])
def mX12_change : mM := (yX12_change, cX12_change, 1, RX12, none, (9, 222, 0, 0), 76, [])
def mX12_undo : mM := (yX12_undo, cX12_undo, 2, RX12, (some .int), (9, 222, 0, 0), 76, [])
def mX12_type : mM := (yX12_type, cX12_type, 2, RX12, (some .int), (9, 222, 0, 0), 76, [])
def mX12_isHigh : mM := (yX12_isHigh, cX12_isHigh, 1, RX12, (some .boolean), (9, 222, 0, 0), 76, [])
def mX12_isLow : mM := (yX12_isLow, cX12_isLow, 1, RX12, (some .boolean), (9, 222, 0, 0), 76, [])
def mX12_readName : mM := (yX12_readName, cX12_readName, 5, RX12, (some .boolean), (10, 242, 0, 0), 76, [])
def mX12_nameAt : mM := (yX12_nameAt, cX12_nameAt, 1, RX12, (some .int), (8, 200, 0, 0), 76, [])
def mX12_named : mM := (yX12_named, cX12_named, 4, RX12, (some .int), (9, 220, 0, 0), 76, [])
def mX12_addParty : mM := (yX12_addParty, cX12_addParty, 4, RX12, (some .int), (11, 266, 0, 0), 76, [])
def mX12_findParty : mM := (yX12_findParty, cX12_findParty, 2, RX12, (some .int), (11, 266, 0, 0), 76, [])
def mX12_parties : mM := (yX12_parties, cX12_parties, 1, RX12, (some .int), (8, 200, 0, 0), 76, [])
def mX12_noParty : mM := (yX12_noParty, cX12_noParty, 2, RX12, (some .boolean), (9, 222, 0, 0), 76, [])
def mX12_nameLength : mM := (yX12_nameLength, cX12_nameLength, 2, RX12, (some .int), (10, 243, 0, 0), 76, [])
def mX12_nameCodePoint : mM := (yX12_nameCodePoint, cX12_nameCodePoint, 3, RX12, (some .int), (10, 243, 0, 0), 76, [])
def mX12_put : mM := (yX12_put, cX12_put, 2, RX12, none, (8, 200, 0, 0), 76, [])
def mX12_writeNameReversed : mM := (yX12_writeNameReversed, cX12_writeNameReversed, 4, RX12, (some .int), (10, 243, 0, 0), 76, [])
def mX12_today : mM := (yX12_today, cX12_today, 1, RX12, (some .int), (8, 200, 0, 0), 76, [])
def mX12_advance : mM := (yX12_advance, cX12_advance, 2, RX12, (some .int), (10, 242, 0, 0), 76, [])
def mX12_isDay : mM := (yX12_isDay, cX12_isDay, 1, RX12, (some .boolean), (9, 222, 0, 0), 76, [])
def mX12_weekday : mM := (yX12_weekday, cX12_weekday, 2, RX12, (some .int), (10, 242, 0, 0), 76, [])
def mX12_holidayAt : mM := (yX12_holidayAt, cX12_holidayAt, 3, RX12, (some .int), (8, 200, 0, 0), 76, [])
def mX12_isCourt : mM := (yX12_isCourt, cX12_isCourt, 2, RX12, (some .boolean), (9, 222, 0, 0), 76, [])
def mX12_isCourtDay : mM := (yX12_isCourtDay, cX12_isCourtDay, 2, RX12, (some .boolean), (10, 243, 0, 0), 76, [])
def mX12_addHoliday : mM := (yX12_addHoliday, cX12_addHoliday, 2, RX12, (some .int), (10, 242, 0, 0), 76, [])
def mX12_removeHoliday : mM := (yX12_removeHoliday, cX12_removeHoliday, 3, RX12, (some .int), (10, 242, 0, 0), 76, [])
def mX12_courtDays : mM := (yX12_courtDays, cX12_courtDays, 5, RX12, (some .int), (10, 243, 0, 0), 76, [])
def mX12_courtDaysByMarking : mM := (yX12_courtDaysByMarking, cX12_courtDaysByMarking, 3, RX12, (some .int), (11, 267, 0, 0), 76, [])
def mX12_noRule : mM := (yX12_noRule, cX12_noRule, 1, RX12, (some .boolean), (9, 222, 0, 0), 76, [])
def mX12_setRule : mM := (yX12_setRule, cX12_setRule, 5, RX12, (some .int), (10, 242, 0, 0), 76, [])
def mX12_ruleLength : mM := (yX12_ruleLength, cX12_ruleLength, 2, RX12, (some .int), (10, 242, 0, 0), 76, [])
def mX12_countsCourtDays : mM := (yX12_countsCourtDays, cX12_countsCourtDays, 2, RX12, (some .boolean), (10, 242, 0, 0), 76, [])
def mX12_wayOf : mM := (yX12_wayOf, cX12_wayOf, 1, RX12, (some .int), (8, 200, 0, 0), 76, [])
def mX12_setServiceDays : mM := (yX12_setServiceDays, cX12_setServiceDays, 4, RX12, (some .int), (10, 242, 0, 0), 76, [])
def mX12_serviceDays : mM := (yX12_serviceDays, cX12_serviceDays, 2, RX12, (some .int), (9, 222, 0, 0), 76, [])
def mX12_lastDayBefore : mM := (yX12_lastDayBefore, cX12_lastDayBefore, 6, RX12, (some .int), (10, 243, 0, 0), 76, [])
def mX12_lastDayBeforeByMarking : mM := (yX12_lastDayBeforeByMarking, cX12_lastDayBeforeByMarking, 3, RX12, (some .int), (11, 268, 0, 0), 76, [])
def mX12_deadlineAt : mM := (yX12_deadlineAt, cX12_deadlineAt, 1, RX12, (some .int), (8, 200, 0, 0), 76, [])
def mX12_of : mM := (yX12_of, cX12_of, 3, RX12, (some .int), (9, 220, 0, 0), 76, [])
def mX12_noDeadline : mM := (yX12_noDeadline, cX12_noDeadline, 2, RX12, (some .boolean), (9, 222, 0, 0), 76, [])
def mX12_isOpen : mM := (yX12_isOpen, cX12_isOpen, 2, RX12, (some .boolean), (10, 242, 0, 0), 76, [])
def mX12_serve : mM := (yX12_serve, cX12_serve, 6, RX12, (some .int), (10, 243, 0, 0), 76, [])
def mX12_deadlines : mM := (yX12_deadlines, cX12_deadlines, 1, RX12, (some .int), (8, 200, 0, 0), 76, [])
def mX12_isStoppedFor : mM := (yX12_isStoppedFor, cX12_isStoppedFor, 7, RX12, (some .boolean), (8, 200, 0, 0), 76, [])
def mX12_endOf : mM := (yX12_endOf, cX12_endOf, 8, RX12, (some .int), (10, 243, 0, 0), 76, [])
def mX12_parts : mM := (yX12_parts, cX12_parts, 2, RX12, (some .int), (10, 242, 0, 0), 76, [])
def mX12_partLength : mM := (yX12_partLength, cX12_partLength, 4, RX12, (some .int), (10, 242, 0, 0), 76, [])
def mX12_dueOf : mM := (yX12_dueOf, cX12_dueOf, 4, RX12, (some .int), (11, 270, 0, 0), 76, [])
def mX12_due : mM := (yX12_due, cX12_due, 3, RX12, (some .int), (12, 293, 0, 0), 76, [])
def mX12_dueByMarking : mM := (yX12_dueByMarking, cX12_dueByMarking, 2, RX12, (some .int), (13, 315, 0, 0), 76, [])
def mX12_leftOf : mM := (yX12_leftOf, cX12_leftOf, 8, RX12, (some .int), (11, 265, 0, 0), 76, [])
def mX12_daysLeft : mM := (yX12_daysLeft, cX12_daysLeft, 2, RX12, (some .int), (12, 292, 0, 0), 76, [])
def mX12_daysLeftByMarking : mM := (yX12_daysLeftByMarking, cX12_daysLeftByMarking, 2, RX12, (some .int), (13, 313, 0, 0), 76, [])
def mX12_isPast : mM := (yX12_isPast, cX12_isPast, 3, RX12, (some .boolean), (12, 293, 0, 0), 76, [])
def mX12_grantedOf : mM := (yX12_grantedOf, cX12_grantedOf, 4, RX12, (some .int), (10, 242, 0, 0), 76, [])
def mX12_grant : mM := (yX12_grant, cX12_grant, 4, RX12, (some .int), (11, 265, 0, 0), 76, [])
def mX12_extendByConsent : mM := (yX12_extendByConsent, cX12_extendByConsent, 3, RX12, (some .int), (13, 315, 0, 0), 76, [])
def mX12_extendByOrder : mM := (yX12_extendByOrder, cX12_extendByOrder, 3, RX12, (some .int), (12, 288, 0, 0), 76, [])
def mX12_extensionDays : mM := (yX12_extensionDays, cX12_extensionDays, 2, RX12, (some .int), (11, 265, 0, 0), 76, [])
def mX12_file : mM := (yX12_file, cX12_file, 3, RX12, (some .boolean), (13, 315, 0, 0), 76, [])
def mX12_strike : mM := (yX12_strike, cX12_strike, 4, RX12, (some .int), (11, 263, 0, 0), 76, [])
def mX12_status : mM := (yX12_status, cX12_status, 2, RX12, (some .char), (10, 243, 0, 0), 76, [])
def mX12_findDues : mM := (yX12_findDues, cX12_findDues, 3, RX12, none, (12, 293, 0, 0), 76, [])
def mX12_openAt : mM := (yX12_openAt, cX12_openAt, 5, RX12, (some .int), (13, 315, 0, 0), 76, [])
def mX12_overdue : mM := (yX12_overdue, cX12_overdue, 3, RX12, (some .int), (13, 315, 0, 0), 76, [])
def mX12_busiestDay : mM := (yX12_busiestDay, cX12_busiestDay, 6, RX12, (some .int), (13, 315, 0, 0), 76, [])
def mX12_meanDaysLeft : mM := (yX12_meanDaysLeft, cX12_meanDaysLeft, 4, RX12, (some .double), (12, 292, 0, 0), 76, [])
def mX12_order : mM := (yX12_order, cX12_order, 4, RX12, (some .int), (8, 200, 0, 0), 76, [])
def mX12_stayParty : mM := (yX12_stayParty, cX12_stayParty, 3, RX12, (some .int), (10, 243, 0, 0), 76, [])
def mX12_stayAll : mM := (yX12_stayAll, cX12_stayAll, 2, RX12, (some .int), (10, 242, 0, 0), 76, [])
def mX12_lift : mM := (yX12_lift, cX12_lift, 2, RX12, (some .int), (10, 242, 0, 0), 76, [])
def mX12_staysInForce : mM := (yX12_staysInForce, cX12_staysInForce, 3, RX12, (some .int), (8, 200, 0, 0), 76, [])
def mX12_isStoppedOf : mM := (yX12_isStoppedOf, cX12_isStoppedOf, 3, RX12, (some .boolean), (10, 242, 0, 0), 76, [])
def mX12_isStopped : mM := (yX12_isStopped, cX12_isStopped, 3, RX12, (some .boolean), (11, 264, 0, 0), 76, [])
def mX12_stoppedDays : mM := (yX12_stoppedDays, cX12_stoppedDays, 6, RX12, (some .int), (11, 264, 0, 0), 76, [])
def mX12_stoppedDaysByMarking : mM := (yX12_stoppedDaysByMarking, cX12_stoppedDaysByMarking, 4, RX12, (some .int), (12, 289, 0, 0), 76, [])
def mX12_occurrenceAt : mM := (yX12_occurrenceAt, cX12_occurrenceAt, 1, RX12, (some .int), (8, 200, 0, 0), 76, [])
def mX12_noOccurrence : mM := (yX12_noOccurrence, cX12_noOccurrence, 2, RX12, (some .boolean), (9, 222, 0, 0), 76, [])
def mX12_addOccurrence : mM := (yX12_addOccurrence, cX12_addOccurrence, 4, RX12, (some .int), (10, 242, 0, 0), 76, [])
def mX12_conduct : mM := (yX12_conduct, cX12_conduct, 5, RX12, (some .int), (9, 220, 0, 0), 76, [])
def mX12_linkOccurrences : mM := (yX12_linkOccurrences, cX12_linkOccurrences, 5, RX12, (some .int), (10, 244, 0, 0), 76, [])
def mX12_sameConduct : mM := (yX12_sameConduct, cX12_sameConduct, 3, RX12, (some .boolean), (10, 244, 0, 0), 76, [])
def mX12_sameConductBySearch : mM := (yX12_sameConductBySearch, cX12_sameConductBySearch, 3, RX12, (some .boolean), (11, 266, 0, 0), 76, [])
def mX12_barOf : mM := (yX12_barOf, cX12_barOf, 3, RX12, (some .int), (11, 270, 0, 0), 76, [])
def mX12_barDay : mM := (yX12_barDay, cX12_barDay, 3, RX12, (some .int), (12, 292, 0, 0), 76, [])
def mX12_claimAt : mM := (yX12_claimAt, cX12_claimAt, 1, RX12, (some .int), (8, 200, 0, 0), 76, [])
def mX12_noClaim : mM := (yX12_noClaim, cX12_noClaim, 2, RX12, (some .boolean), (9, 222, 0, 0), 76, [])
def mX12_claim : mM := (yX12_claim, cX12_claim, 5, RX12, (some .int), (9, 220, 0, 0), 76, [])
def mX12_fileClaim : mM := (yX12_fileClaim, cX12_fileClaim, 3, RX12, (some .int), (10, 244, 0, 0), 76, [])
def mX12_amendClaim : mM := (yX12_amendClaim, cX12_amendClaim, 3, RX12, (some .int), (10, 244, 0, 0), 76, [])
def mX12_effectiveOf : mM := (yX12_effectiveOf, cX12_effectiveOf, 3, RX12, (some .int), (10, 244, 0, 0), 76, [])
def mX12_effectiveDay : mM := (yX12_effectiveDay, cX12_effectiveDay, 2, RX12, (some .int), (11, 266, 0, 0), 76, [])
def mX12_isTimelyNow : mM := (yX12_isTimelyNow, cX12_isTimelyNow, 3, RX12, (some .boolean), (12, 292, 0, 0), 76, [])
def mX12_isTimely : mM := (yX12_isTimely, cX12_isTimely, 2, RX12, (some .boolean), (13, 314, 0, 0), 76, [])
def mX12_timelyClaims : mM := (yX12_timelyClaims, cX12_timelyClaims, 4, RX12, (some .int), (13, 314, 0, 0), 76, [])
def mX12_putNumber : mM := (yX12_putNumber, cX12_putNumber, 3, RX12, none, (9, 221, 0, 0), 76, [])
def mX12_writeDeadline : mM := (yX12_writeDeadline, cX12_writeDeadline, 3, RX12, (some .int), (12, 293, 0, 0), 76, [])
def mX12_charAt : mM := (yX12_charAt, cX12_charAt, 2, RX12, (some .char), (9, 222, 0, 0), 76, [])
def mX12_isConsistent : mM := (yX12_isConsistent, cX12_isConsistent, 1, RX12, (some .boolean), (8, 200, 0, 0), 76, [])
def mX12_isAt : mM := (yX12_isAt, cX12_isAt, 2, RX12, (some .boolean), (8, 200, 0, 0), 76, [])
def mX12_isDigit : mM := (yX12_isDigit, cX12_isDigit, 1, RX12, (some .boolean), (9, 222, 0, 0), 76, [])
def mX12_take : mM := (yX12_take, cX12_take, 2, RX12, none, (9, 221, 0, 0), 76, [])
def mX12_takeWord : mM := (yX12_takeWord, cX12_takeWord, 7, RX12, none, (11, 263, 0, 0), 76, [])
def mX12_takeIf : mM := (yX12_takeIf, cX12_takeIf, 2, RX12, none, (10, 242, 0, 0), 76, [])
def mX12_digits : mM := (yX12_digits, cX12_digits, 4, RX12, (some .int), (10, 242, 0, 0), 76, [])
def mX12_argument : mM := (yX12_argument, cX12_argument, 2, RX12, (some .int), (11, 265, 0, 0), 76, [])
def mX12_command : mM := (yX12_command, cX12_command, 3, RX12, none, (12, 289, 0, 0), 76, [])
def mX12_readProgram : mM := (yX12_readProgram, cX12_readProgram, 1, RX12, (some .boolean), (13, 311, 0, 0), 76, [])
def mX12_execute : mM := (yX12_execute, cX12_execute, 3, RX12, none, (14, 337, 0, 0), 76, [])
def mX12_run : mM := (yX12_run, cX12_run, 4, RX12, (some .int), (15, 359, 0, 0), 76, [])
def mX12_errorPosition : mM := (yX12_errorPosition, cX12_errorPosition, 1, RX12, (some .int), (9, 222, 0, 0), 76, [])
def mX12_failedCommand : mM := (yX12_failedCommand, cX12_failedCommand, 1, RX12, (some .int), (9, 222, 0, 0), 76, [])
def mL_type : mM := (yL_type, cL_type, 4, RL, (some .int), (10, 242, 1, 6), 76, [(0, 9, 12, 13)])
def mL_addParty : mM := (yL_addParty, cL_addParty, 3, RL, (some .int), (13, 304, 47, 8228), 76, [(0, 8, 11, 19), (0, 8, 14, 13)])
def mL_findParty : mM := (yL_findParty, cL_findParty, 3, RL, (some .int), (11, 269, 1, 6), 76, [(0, 8, 11, 24)])
def mL_nameLength : mM := (yL_nameLength, cL_nameLength, 4, RL, (some .int), (11, 263, 1, 6), 76, [(0, 9, 12, 30)])
def mL_nameCodePoint : mM := (yL_nameCodePoint, cL_nameCodePoint, 5, RL, (some .int), (11, 264, 2, 12), 76, [(0, 10, 13, 30)])
def mL_writeNameReversed : mM := (yL_writeNameReversed, cL_writeNameReversed, 4, RL, (some .int), (11, 264, 1, 6), 76, [(0, 9, 12, 30)])
def mL_advance : mM := (yL_advance, cL_advance, 4, RL, (some .int), (13, 305, 47, 8228), 76, [(0, 9, 12, 19), (0, 9, 15, 13)])
def mL_weekday : mM := (yL_weekday, cL_weekday, 4, RL, (some .int), (11, 261, 1, 6), 76, [(0, 9, 12, 19)])
def mL_isCourtDay : mM := (yL_isCourtDay, cL_isCourtDay, 4, RL, (some .int), (11, 264, 1, 6), 76, [(0, 16, 19, 19)])
def mL_addHoliday : mM := (yL_addHoliday, cL_addHoliday, 4, RL, (some .int), (13, 305, 47, 8228), 76, [(0, 9, 12, 19), (0, 9, 15, 13)])
def mL_removeHoliday : mM := (yL_removeHoliday, cL_removeHoliday, 4, RL, (some .int), (13, 305, 47, 8228), 76, [(0, 9, 12, 19), (0, 9, 15, 24)])
def mL_courtDays : mM := (yL_courtDays, cL_courtDays, 5, RL, (some .int), (11, 263, 1, 6), 76, [(0, 10, 13, 19)])
def mL_courtDaysByMarking : mM := (yL_courtDaysByMarking, cL_courtDaysByMarking, 5, RL, (some .int), (13, 308, 1, 6), 76, [(0, 10, 13, 19)])
def mL_setRule : mM := (yL_setRule, cL_setRule, 6, RL, (some .int), (13, 307, 47, 8228), 76, [(0, 12, 15, 30), (0, 12, 19, 19)])
def mL_ruleLength : mM := (yL_ruleLength, cL_ruleLength, 4, RL, (some .int), (11, 261, 1, 6), 76, [(0, 9, 12, 30)])
def mL_countsCourtDays : mM := (yL_countsCourtDays, cL_countsCourtDays, 4, RL, (some .int), (11, 261, 1, 6), 76, [(0, 16, 19, 30)])
def mL_setServiceDays : mM := (yL_setServiceDays, cL_setServiceDays, 5, RL, (some .int), (13, 306, 47, 8228), 76, [(0, 10, 13, 19)])
def mL_serviceDays : mM := (yL_serviceDays, cL_serviceDays, 4, RL, (some .int), (10, 242, 1, 6), 76, [(0, 9, 12, 19)])
def mL_lastDayBefore : mM := (yL_lastDayBefore, cL_lastDayBefore, 5, RL, (some .int), (13, 314, 3, 18), 76, [(0, 10, 13, 30), (0, 10, 17, 19), (0, 10, 21, 24)])
def mL_lastDayBeforeByMarking : mM := (yL_lastDayBeforeByMarking, cL_lastDayBeforeByMarking, 5, RL, (some .int), (13, 310, 3, 18), 76, [(0, 10, 13, 30), (0, 10, 17, 19), (0, 10, 21, 24)])
def mL_serve : mM := (yL_serve, cL_serve, 6, RL, (some .int), (13, 307, 47, 8228), 76, [(0, 12, 15, 30), (0, 12, 19, 19), (0, 12, 23, 13)])
def mL_due : mM := (yL_due, cL_due, 4, RL, (some .int), (14, 341, 2, 12), 76, [(0, 9, 12, 30), (0, 9, 15, 24)])
def mL_dueByMarking : mM := (yL_dueByMarking, cL_dueByMarking, 4, RL, (some .int), (14, 334, 2, 12), 76, [(0, 9, 12, 30), (0, 9, 15, 24)])
def mL_daysLeft : mM := (yL_daysLeft, cL_daysLeft, 4, RL, (some .int), (14, 345, 1, 6), 76, [(0, 9, 12, 30)])
def mL_daysLeftByMarking : mM := (yL_daysLeftByMarking, cL_daysLeftByMarking, 4, RL, (some .int), (14, 335, 1, 6), 76, [(0, 9, 12, 30)])
def mL_extendByConsent : mM := (yL_extendByConsent, cL_extendByConsent, 5, RL, (some .int), (15, 364, 47, 8228), 76, [(0, 10, 13, 30), (0, 10, 17, 19), (0, 10, 21, 13), (0, 10, 25, 103)])
def mL_extendByOrder : mM := (yL_extendByOrder, cL_extendByOrder, 5, RL, (some .int), (13, 306, 47, 8228), 76, [(0, 10, 13, 30), (0, 10, 17, 19), (0, 10, 21, 13)])
def mL_extensionDays : mM := (yL_extensionDays, cL_extensionDays, 4, RL, (some .int), (11, 263, 1, 6), 76, [(0, 9, 12, 30)])
def mL_file : mM := (yL_file, cL_file, 4, RL, (some .int), (15, 363, 47, 8228), 76, [(0, 16, 19, 30), (0, 16, 22, 13)])
def mL_strike : mM := (yL_strike, cL_strike, 4, RL, (some .int), (13, 305, 47, 8228), 76, [(0, 9, 12, 30), (0, 9, 15, 13)])
def mL_status : mM := (yL_status, cL_status, 4, RL, (some .int), (11, 263, 1, 6), 76, [(0, 9, 12, 30)])
def mL_openAt : mM := (yL_openAt, cL_openAt, 4, RL, (some .int), (15, 363, 1, 6), 76, [(0, 9, 12, 24)])
def mL_busiestDay : mM := (yL_busiestDay, cL_busiestDay, 3, RL, (some .int), (15, 366, 1, 6), 76, [(0, 8, 11, 24)])
def mL_meanDaysLeft : mM := (yL_meanDaysLeft, cL_meanDaysLeft, 3, RL, (some .int), (14, 347, 1, 6), 76, [(0, 7, 10, 131)])
def mL_stayParty : mM := (yL_stayParty, cL_stayParty, 5, RL, (some .int), (13, 306, 47, 8228), 76, [(0, 10, 13, 30), (0, 10, 17, 19), (0, 10, 21, 13)])
def mL_stayAll : mM := (yL_stayAll, cL_stayAll, 4, RL, (some .int), (13, 305, 47, 8228), 76, [(0, 9, 12, 19), (0, 9, 15, 13)])
def mL_lift : mM := (yL_lift, cL_lift, 4, RL, (some .int), (13, 305, 47, 8228), 76, [(0, 9, 12, 30), (0, 9, 15, 13)])
def mL_isStopped : mM := (yL_isStopped, cL_isStopped, 5, RL, (some .int), (12, 297, 2, 12), 76, [(0, 17, 20, 30), (0, 17, 24, 19)])
def mL_stoppedDays : mM := (yL_stoppedDays, cL_stoppedDays, 6, RL, (some .int), (12, 298, 2, 12), 76, [(0, 12, 15, 30), (0, 12, 19, 19)])
def mL_stoppedDaysByMarking : mM := (yL_stoppedDaysByMarking, cL_stoppedDaysByMarking, 6, RL, (some .int), (12, 296, 2, 12), 76, [(0, 12, 15, 30), (0, 12, 19, 19)])
def mL_addOccurrence : mM := (yL_addOccurrence, cL_addOccurrence, 5, RL, (some .int), (13, 315, 47, 8228), 76, [(0, 10, 13, 19), (0, 10, 17, 30), (0, 10, 21, 13)])
def mL_linkOccurrences : mM := (yL_linkOccurrences, cL_linkOccurrences, 5, RL, (some .int), (13, 306, 47, 8228), 76, [(0, 10, 13, 30), (0, 10, 17, 19), (0, 10, 21, 13)])
def mL_sameConduct : mM := (yL_sameConduct, cL_sameConduct, 5, RL, (some .int), (11, 264, 2, 12), 76, [(0, 17, 20, 30)])
def mL_sameConductBySearch : mM := (yL_sameConductBySearch, cL_sameConductBySearch, 5, RL, (some .int), (23, 869, 2, 12), 76, [(0, 17, 20, 30)])
def mL_barDay : mM := (yL_barDay, cL_barDay, 4, RL, (some .int), (14, 341, 2, 12), 76, [(0, 9, 12, 30), (0, 9, 15, 24)])
def mL_fileClaim : mM := (yL_fileClaim, cL_fileClaim, 5, RL, (some .int), (13, 306, 47, 8228), 76, [(0, 10, 13, 30), (0, 10, 17, 13)])
def mL_amendClaim : mM := (yL_amendClaim, cL_amendClaim, 5, RL, (some .int), (13, 306, 47, 8228), 76, [(0, 10, 13, 30), (0, 10, 17, 13)])
def mL_effectiveDay : mM := (yL_effectiveDay, cL_effectiveDay, 4, RL, (some .int), (12, 288, 1, 6), 76, [(0, 9, 12, 30)])
def mL_isTimely : mM := (yL_isTimely, cL_isTimely, 4, RL, (some .int), (15, 363, 1, 6), 76, [(0, 16, 19, 30)])
def mL_timelyClaims : mM := (yL_timelyClaims, cL_timelyClaims, 4, RL, (some .int), (15, 365, 1, 6), 76, [(0, 9, 12, 30)])
def mL_writeDeadline : mM := (yL_writeDeadline, cL_writeDeadline, 4, RL, (some .int), (14, 342, 1, 6), 76, [(0, 9, 12, 30)])
def mL_charAt : mM := (yL_charAt, cL_charAt, 4, RL, (some .int), (10, 242, 1, 6), 76, [(0, 9, 12, 30)])
def mL_run : mM := (yL_run, cL_run, 3, RL, (some .int), (16, 387, 48, 8234), 76, [(0, 8, 11, 19), (0, 8, 14, 103)])
def mL_errorPosition : mM := (yL_errorPosition, cL_errorPosition, 3, RL, (some .int), (9, 220, 1, 6), 76, [(0, 8, 11, 24)])
def mL_failedCommand : mM := (yL_failedCommand, cL_failedCommand, 3, RL, (some .int), (9, 220, 1, 6), 76, [(0, 8, 11, 24)])
def mL_undo : mM := (yL_undo, cL_undo, 3, RL, (some .int), (13, 304, 1, 6), 76, [(0, 8, 11, 13)])
def mL_law : mM := (yL_law, cL_law, 9, RL, (some .boolean), (2048, 94400, 603072, 7211114), 76, [])
theorem fg_RX0_9 : FG RX0 9 0 1 := ⟨RX0, TX0, 3, rfl, by decide, rfl, inB0, rfl, Or.inl bw_88⟩
theorem fp_RX0_9 : FP RX0 9 0 1 (tyX0 1) true := ⟨fg_RX0_9, RX0, TX0, 3, tyX0, rfl, tyX0_ok, nmX0, rfl, by decide +kernel⟩
theorem fg_RX0_15 : FG RX0 15 0 0 := ⟨RX0, TX0, 3, rfl, by decide, rfl, inB0, rfl, Or.inl bw_86⟩
theorem fp_RX0_15 : FP RX0 15 0 0 .int false := ⟨fg_RX0_15, RX0, TX0, 3, tyX0, rfl, tyX0_ok, nmX0, rfl, by decide +kernel⟩
theorem fg_RX0_25 : FG RX0 25 0 2 := ⟨RX0, TX0, 3, rfl, by decide, rfl, inB0, rfl, Or.inl bw_91⟩
theorem fp_RX0_25 : FP RX0 25 0 2 .int false := ⟨fg_RX0_25, RX0, TX0, 3, tyX0, rfl, tyX0_ok, nmX0, rfl, by decide +kernel⟩
theorem cl_RX0_28 : CL RX0 28 mX0_placeOf := Or.inl bw_471
theorem cm_X0_placeOf : CM mX0_placeOf 1 := ⟨bw_474, bw_5, ⟨by decide, by decide⟩, by decide +kernel, rfl⟩
theorem ci_X0_placeOf : Cond.instanceMethod (mY mX0_placeOf) ∈ BIG := bw_473
theorem cv_X0_placeOf : CV mX0_placeOf := ⟨ci_X0_placeOf, bs_7⟩
theorem fn_RX1_9 : FN RX1 9 2 := ⟨RX2, TX2, 12, tyX2, rfl, rfl, inB2, tyX2_ok, by decide +kernel, bw_218, bw_123, bw_7⟩
theorem cl_RX1_11 : CL RX1 11 mX2_init := Or.inr ⟨_, nw_219⟩
theorem cm_X2_init : CM mX2_init 0 := ⟨bw_126, bw_7, ⟨by decide, by decide⟩, by decide +kernel, rfl⟩
theorem ci_X2_init : Cond.instanceMethod (mY mX2_init) ∈ BIG := bw_125
theorem fg_RX1_12 : FG RX1 12 1 0 := ⟨RX1, TX1, 8, rfl, by decide, rfl, inB1, rfl, Or.inl bw_220⟩
theorem fp_RX1_12 : FP RX1 12 1 0 (tyX1 0) true := ⟨fg_RX1_12, RX1, TX1, 8, tyX1, rfl, tyX1_ok, nmX1, rfl, by decide +kernel⟩
theorem fg_RX1_18 : FG RX1 18 1 1 := ⟨RX1, TX1, 8, rfl, by decide, rfl, inB1, rfl, Or.inl bw_222⟩
theorem fp_RX1_18 : FP RX1 18 1 1 (tyX1 1) true := ⟨fg_RX1_18, RX1, TX1, 8, tyX1, rfl, tyX1_ok, nmX1, rfl, by decide +kernel⟩
theorem fg_RX1_22 : FG RX1 22 1 2 := ⟨RX1, TX1, 8, rfl, by decide, rfl, inB1, rfl, Or.inl bw_223⟩
theorem fp_RX1_22 : FP RX1 22 1 2 (tyX1 2) true := ⟨fg_RX1_22, RX1, TX1, 8, tyX1, rfl, tyX1_ok, nmX1, rfl, by decide +kernel⟩
theorem fg_RX1_25 : FG RX1 25 1 3 := ⟨RX1, TX1, 8, rfl, by decide, rfl, inB1, rfl, Or.inl bw_224⟩
theorem fp_RX1_25 : FP RX1 25 1 3 (tyX1 3) true := ⟨fg_RX1_25, RX1, TX1, 8, tyX1, rfl, tyX1_ok, nmX1, rfl, by decide +kernel⟩
theorem fg_RX1_28 : FG RX1 28 1 4 := ⟨RX1, TX1, 8, rfl, by decide, rfl, inB1, rfl, Or.inl bw_226⟩
theorem fp_RX1_28 : FP RX1 28 1 4 (tyX1 4) true := ⟨fg_RX1_28, RX1, TX1, 8, tyX1, rfl, tyX1_ok, nmX1, rfl, by decide +kernel⟩
theorem fg_RX1_31 : FG RX1 31 1 5 := ⟨RX1, TX1, 8, rfl, by decide, rfl, inB1, rfl, Or.inl bw_228⟩
theorem fp_RX1_31 : FP RX1 31 1 5 (tyX1 5) true := ⟨fg_RX1_31, RX1, TX1, 8, tyX1, rfl, tyX1_ok, nmX1, rfl, by decide +kernel⟩
theorem fg_RX1_34 : FG RX1 34 1 6 := ⟨RX1, TX1, 8, rfl, by decide, rfl, inB1, rfl, Or.inl bw_229⟩
theorem fp_RX1_34 : FP RX1 34 1 6 (tyX1 6) true := ⟨fg_RX1_34, RX1, TX1, 8, tyX1, rfl, tyX1_ok, nmX1, rfl, by decide +kernel⟩
theorem cl_RX1_37 : CL RX1 37 mX2_copy := Or.inl bw_718
theorem cm_X2_copy : CM mX2_copy 1 := ⟨bw_707, bw_7, ⟨by decide, by decide⟩, by decide +kernel, rfl⟩
theorem ci_X2_copy : Cond.instanceMethod (mY mX2_copy) ∈ BIG := bw_705
theorem cv_X2_copy : CV mX2_copy := ⟨ci_X2_copy, bw_706⟩
theorem fg_RX1_47 : FG RX1 47 1 7 := ⟨RX1, TX1, 8, rfl, by decide, rfl, inB1, rfl, Or.inl bw_230⟩
theorem fp_RX1_47 : FP RX1 47 1 7 .int false := ⟨fg_RX1_47, RX1, TX1, 8, tyX1, rfl, tyX1_ok, nmX1, rfl, by decide +kernel⟩
theorem fg_RX1_51 : FG RX1 51 2 11 := ⟨RX2, TX2, 12, rfl, by decide, rfl, inB2, rfl, Or.inr ⟨_, nw_154⟩⟩
theorem cl_RX1_52 : CL RX1 52 mX2_add := Or.inl bw_1324
theorem cm_X2_add : CM mX2_add 4 := ⟨bw_1079, bw_7, ⟨by decide, by decide⟩, by decide +kernel, rfl⟩
theorem ci_X2_add : Cond.instanceMethod (mY mX2_add) ∈ BIG := bw_1077
theorem cv_X2_add : CV mX2_add := ⟨ci_X2_add, bw_1078⟩
theorem cl_RX1_65 : CL RX1 65 mX1_visit := Or.inl bw_575
theorem cm_X1_visit : CM mX1_visit 4 := ⟨bw_577, bw_9, ⟨by decide, by decide⟩, by decide +kernel, rfl⟩
theorem cs_X1_visit : Cond.static (mY mX1_visit) ∈ BIG := bw_576
theorem cl_RX1_69 : CL RX1 69 mX1_relatesBack := Or.inl bw_1422
theorem cm_X1_relatesBack : CM mX1_relatesBack 1 := ⟨bw_1425, bw_9, ⟨by decide, by decide⟩, by decide +kernel, rfl⟩
theorem ci_X1_relatesBack : Cond.instanceMethod (mY mX1_relatesBack) ∈ BIG := bw_1424
theorem cv_X1_relatesBack : CV mX1_relatesBack := ⟨ci_X1_relatesBack, bs_48⟩
theorem cl_RX1_73 : CL RX1 73 mX1_inSameGroup := Or.inl bw_1426
theorem cm_X1_inSameGroup : CM mX1_inSameGroup 2 := ⟨bw_570, bw_9, ⟨by decide, by decide⟩, by decide +kernel, rfl⟩
theorem ci_X1_inSameGroup : Cond.instanceMethod (mY mX1_inSameGroup) ∈ BIG := bw_568
theorem cv_X1_inSameGroup : CV mX1_inSameGroup := ⟨ci_X1_inSameGroup, bw_569⟩
theorem fg_RX2_9 : FG RX2 9 2 0 := ⟨RX2, TX2, 12, rfl, by decide, rfl, inB2, rfl, Or.inl bw_128⟩
theorem fp_RX2_9 : FP RX2 9 2 0 (tyX2 0) true := ⟨fg_RX2_9, RX2, TX2, 12, tyX2, rfl, tyX2_ok, nmX2, rfl, by decide +kernel⟩
theorem fg_RX2_15 : FG RX2 15 2 1 := ⟨RX2, TX2, 12, rfl, by decide, rfl, inB2, rfl, Or.inl bw_132⟩
theorem fp_RX2_15 : FP RX2 15 2 1 (tyX2 1) true := ⟨fg_RX2_15, RX2, TX2, 12, tyX2, rfl, tyX2_ok, nmX2, rfl, by decide +kernel⟩
theorem fg_RX2_18 : FG RX2 18 2 2 := ⟨RX2, TX2, 12, rfl, by decide, rfl, inB2, rfl, Or.inl bw_135⟩
theorem fp_RX2_18 : FP RX2 18 2 2 (tyX2 2) true := ⟨fg_RX2_18, RX2, TX2, 12, tyX2, rfl, tyX2_ok, nmX2, rfl, by decide +kernel⟩
theorem fg_RX2_21 : FG RX2 21 2 3 := ⟨RX2, TX2, 12, rfl, by decide, rfl, inB2, rfl, Or.inl bw_138⟩
theorem fp_RX2_21 : FP RX2 21 2 3 (tyX2 3) true := ⟨fg_RX2_21, RX2, TX2, 12, tyX2, rfl, tyX2_ok, nmX2, rfl, by decide +kernel⟩
theorem fg_RX2_25 : FG RX2 25 2 4 := ⟨RX2, TX2, 12, rfl, by decide, rfl, inB2, rfl, Or.inl bw_139⟩
theorem fp_RX2_25 : FP RX2 25 2 4 (tyX2 4) true := ⟨fg_RX2_25, RX2, TX2, 12, tyX2, rfl, tyX2_ok, nmX2, rfl, by decide +kernel⟩
theorem fg_RX2_28 : FG RX2 28 2 5 := ⟨RX2, TX2, 12, rfl, by decide, rfl, inB2, rfl, Or.inl bw_142⟩
theorem fp_RX2_28 : FP RX2 28 2 5 (tyX2 5) true := ⟨fg_RX2_28, RX2, TX2, 12, tyX2, rfl, tyX2_ok, nmX2, rfl, by decide +kernel⟩
theorem fg_RX2_31 : FG RX2 31 2 6 := ⟨RX2, TX2, 12, rfl, by decide, rfl, inB2, rfl, Or.inl bw_143⟩
theorem fp_RX2_31 : FP RX2 31 2 6 (tyX2 6) true := ⟨fg_RX2_31, RX2, TX2, 12, tyX2, rfl, tyX2_ok, nmX2, rfl, by decide +kernel⟩
theorem fg_RX2_34 : FG RX2 34 2 7 := ⟨RX2, TX2, 12, rfl, by decide, rfl, inB2, rfl, Or.inl bw_145⟩
theorem fp_RX2_34 : FP RX2 34 2 7 (tyX2 7) true := ⟨fg_RX2_34, RX2, TX2, 12, tyX2, rfl, tyX2_ok, nmX2, rfl, by decide +kernel⟩
theorem fg_RX2_37 : FG RX2 37 2 8 := ⟨RX2, TX2, 12, rfl, by decide, rfl, inB2, rfl, Or.inl bw_147⟩
theorem fp_RX2_37 : FP RX2 37 2 8 (tyX2 8) true := ⟨fg_RX2_37, RX2, TX2, 12, tyX2, rfl, tyX2_ok, nmX2, rfl, by decide +kernel⟩
theorem fg_RX2_40 : FG RX2 40 2 9 := ⟨RX2, TX2, 12, rfl, by decide, rfl, inB2, rfl, Or.inl bw_149⟩
theorem fp_RX2_40 : FP RX2 40 2 9 (tyX2 9) true := ⟨fg_RX2_40, RX2, TX2, 12, tyX2, rfl, tyX2_ok, nmX2, rfl, by decide +kernel⟩
theorem fg_RX2_43 : FG RX2 43 2 10 := ⟨RX2, TX2, 12, rfl, by decide, rfl, inB2, rfl, Or.inl bw_151⟩
theorem fp_RX2_43 : FP RX2 43 2 10 (tyX2 10) true := ⟨fg_RX2_43, RX2, TX2, 12, tyX2, rfl, tyX2_ok, nmX2, rfl, by decide +kernel⟩
theorem fg_RX2_53 : FG RX2 53 2 11 := ⟨RX2, TX2, 12, rfl, by decide, rfl, inB2, rfl, Or.inl bw_153⟩
theorem fp_RX2_53 : FP RX2 53 2 11 .int false := ⟨fg_RX2_53, RX2, TX2, 12, tyX2, rfl, tyX2_ok, nmX2, rfl, by decide +kernel⟩
theorem cl_RX2_57 : CL RX2 57 mX2_isOpen := Or.inl bw_1191
theorem cm_X2_isOpen : CM mX2_isOpen 1 := ⟨bw_416, bw_7, ⟨by decide, by decide⟩, by decide +kernel, rfl⟩
theorem ci_X2_isOpen : Cond.instanceMethod (mY mX2_isOpen) ∈ BIG := bw_414
theorem cv_X2_isOpen : CV mX2_isOpen := ⟨ci_X2_isOpen, bw_415⟩
theorem fg_RX2_61 : FG RX2 61 7 1 := ⟨RX7, TX7, 3, rfl, by decide, rfl, inB7, rfl, Or.inr ⟨_, nw_110⟩⟩
theorem fg_RX2_64 : FG RX2 64 7 0 := ⟨RX7, TX7, 3, rfl, by decide, rfl, inB7, rfl, Or.inr ⟨_, nw_107⟩⟩
theorem cl_RX2_67 : CL RX2 67 mX2_addPart := Or.inl bw_1080
theorem cm_X2_addPart : CM mX2_addPart 2 := ⟨bw_1083, bw_7, ⟨by decide, by decide⟩, by decide +kernel, rfl⟩
theorem ci_X2_addPart : Cond.instanceMethod (mY mX2_addPart) ∈ BIG := bw_1081
theorem cv_X2_addPart : CV mX2_addPart := ⟨ci_X2_addPart, bw_1082⟩
theorem cl_RX2_71 : CL RX2 71 mX2_lengthOfPart := Or.inl bw_1123
theorem cm_X2_lengthOfPart : CM mX2_lengthOfPart 2 := ⟨bw_443, bw_7, ⟨by decide, by decide⟩, by decide +kernel, rfl⟩
theorem ci_X2_lengthOfPart : Cond.instanceMethod (mY mX2_lengthOfPart) ∈ BIG := bw_441
theorem cv_X2_lengthOfPart : CV mX2_lengthOfPart := ⟨ci_X2_lengthOfPart, bw_442⟩
theorem fn_RX3_7 : FN RX3 7 5 := ⟨RX5, TX5, 3, tyX5, rfl, rfl, inB5, tyX5_ok, by decide +kernel, bw_60, bw_61, bw_4⟩
theorem cl_RX3_9 : CL RX3 9 mX5_init := Or.inr ⟨_, nw_62⟩
theorem cm_X5_init : CM mX5_init 0 := ⟨bw_64, bw_4, ⟨by decide, by decide⟩, by decide +kernel, rfl⟩
theorem ci_X5_init : Cond.instanceMethod (mY mX5_init) ∈ BIG := bw_63
theorem fg_RX3_10 : FG RX3 10 3 0 := ⟨RX3, TX3, 6, rfl, by decide, rfl, inB3, rfl, Or.inl bw_249⟩
theorem fp_RX3_10 : FP RX3 10 3 0 (tyX3 0) true := ⟨fg_RX3_10, RX3, TX3, 6, tyX3, rfl, tyX3_ok, nmX3, rfl, by decide +kernel⟩
theorem fn_RX3_16 : FN RX3 16 0 := ⟨RX0, TX0, 3, tyX0, rfl, rfl, inB0, tyX0_ok, by decide +kernel, bw_80, bw_81, bw_5⟩
theorem cl_RX3_18 : CL RX3 18 mX0_init := Or.inr ⟨_, nw_82⟩
theorem cm_X0_init : CM mX0_init 0 := ⟨bw_84, bw_5, ⟨by decide, by decide⟩, by decide +kernel, rfl⟩
theorem ci_X0_init : Cond.instanceMethod (mY mX0_init) ∈ BIG := bw_83
theorem fg_RX3_19 : FG RX3 19 3 1 := ⟨RX3, TX3, 6, rfl, by decide, rfl, inB3, rfl, Or.inl bw_251⟩
theorem fp_RX3_19 : FP RX3 19 3 1 (tyX3 1) true := ⟨fg_RX3_19, RX3, TX3, 6, tyX3, rfl, tyX3_ok, nmX3, rfl, by decide +kernel⟩
theorem fn_RX3_23 : FN RX3 23 7 := ⟨RX7, TX7, 3, tyX7, rfl, rfl, inB7, tyX7_ok, by decide +kernel, bw_100, bw_101, bw_6⟩
theorem cl_RX3_25 : CL RX3 25 mX7_init := Or.inl bw_102
theorem cm_X7_init : CM mX7_init 0 := ⟨bw_104, bw_6, ⟨by decide, by decide⟩, by decide +kernel, rfl⟩
theorem ci_X7_init : Cond.instanceMethod (mY mX7_init) ∈ BIG := bw_103
theorem fg_RX3_26 : FG RX3 26 3 2 := ⟨RX3, TX3, 6, rfl, by decide, rfl, inB3, rfl, Or.inl bw_253⟩
theorem fp_RX3_26 : FP RX3 26 3 2 (tyX3 2) true := ⟨fg_RX3_26, RX3, TX3, 6, tyX3, rfl, tyX3_ok, nmX3, rfl, by decide +kernel⟩
theorem fn_RX3_30 : FN RX3 30 2 := ⟨RX2, TX2, 12, tyX2, rfl, rfl, inB2, tyX2_ok, by decide +kernel, bw_122, bw_123, bw_7⟩
theorem cl_RX3_32 : CL RX3 32 mX2_init := Or.inr ⟨_, nw_124⟩
theorem fg_RX3_33 : FG RX3 33 3 3 := ⟨RX3, TX3, 6, rfl, by decide, rfl, inB3, rfl, Or.inl bw_255⟩
theorem fp_RX3_33 : FP RX3 33 3 3 (tyX3 3) true := ⟨fg_RX3_33, RX3, TX3, 6, tyX3, rfl, tyX3_ok, nmX3, rfl, by decide +kernel⟩
theorem fn_RX3_37 : FN RX3 37 8 := ⟨RX8, TX8, 5, tyX8, rfl, rfl, inB8, tyX8_ok, by decide +kernel, bw_181, bw_182, bw_8⟩
theorem cl_RX3_39 : CL RX3 39 mX8_init := Or.inr ⟨_, nw_183⟩
theorem cm_X8_init : CM mX8_init 0 := ⟨bw_185, bw_8, ⟨by decide, by decide⟩, by decide +kernel, rfl⟩
theorem ci_X8_init : Cond.instanceMethod (mY mX8_init) ∈ BIG := bw_184
theorem fg_RX3_40 : FG RX3 40 3 4 := ⟨RX3, TX3, 6, rfl, by decide, rfl, inB3, rfl, Or.inl bw_257⟩
theorem fp_RX3_40 : FP RX3 40 3 4 (tyX3 4) true := ⟨fg_RX3_40, RX3, TX3, 6, tyX3, rfl, tyX3_ok, nmX3, rfl, by decide +kernel⟩
theorem fn_RX3_44 : FN RX3 44 1 := ⟨RX1, TX1, 8, tyX1, rfl, rfl, inB1, tyX1_ok, by decide +kernel, bw_212, bw_213, bw_9⟩
theorem cl_RX3_46 : CL RX3 46 mX1_init := Or.inr ⟨_, nw_214⟩
theorem cm_X1_init : CM mX1_init 0 := ⟨bw_216, bw_9, ⟨by decide, by decide⟩, by decide +kernel, rfl⟩
theorem ci_X1_init : Cond.instanceMethod (mY mX1_init) ∈ BIG := bw_215
theorem fg_RX3_47 : FG RX3 47 3 5 := ⟨RX3, TX3, 6, rfl, by decide, rfl, inB3, rfl, Or.inl bw_259⟩
theorem fp_RX3_47 : FP RX3 47 3 5 (tyX3 5) true := ⟨fg_RX3_47, RX3, TX3, 6, tyX3, rfl, tyX3_ok, nmX3, rfl, by decide +kernel⟩
theorem cl_RX3_51 : CL RX3 51 mX5_copy := Or.inl bw_687
theorem cm_X5_copy : CM mX5_copy 1 := ⟨bw_690, bw_4, ⟨by decide, by decide⟩, by decide +kernel, rfl⟩
theorem ci_X5_copy : Cond.instanceMethod (mY mX5_copy) ∈ BIG := bw_688
theorem cv_X5_copy : CV mX5_copy := ⟨ci_X5_copy, bw_689⟩
theorem cl_RX3_55 : CL RX3 55 mX0_copy := Or.inl bw_694
theorem cm_X0_copy : CM mX0_copy 1 := ⟨bw_697, bw_5, ⟨by decide, by decide⟩, by decide +kernel, rfl⟩
theorem ci_X0_copy : Cond.instanceMethod (mY mX0_copy) ∈ BIG := bw_695
theorem cv_X0_copy : CV mX0_copy := ⟨ci_X0_copy, bw_696⟩
theorem cl_RX3_58 : CL RX3 58 mX7_copy := Or.inl bw_699
theorem cm_X7_copy : CM mX7_copy 1 := ⟨bw_702, bw_6, ⟨by decide, by decide⟩, by decide +kernel, rfl⟩
theorem ci_X7_copy : Cond.instanceMethod (mY mX7_copy) ∈ BIG := bw_700
theorem cv_X7_copy : CV mX7_copy := ⟨ci_X7_copy, bw_701⟩
theorem cl_RX3_61 : CL RX3 61 mX2_copy := Or.inl bw_704
theorem cl_RX3_64 : CL RX3 64 mX8_copy := Or.inl bw_709
theorem cm_X8_copy : CM mX8_copy 1 := ⟨bw_712, bw_8, ⟨by decide, by decide⟩, by decide +kernel, rfl⟩
theorem ci_X8_copy : Cond.instanceMethod (mY mX8_copy) ∈ BIG := bw_710
theorem cv_X8_copy : CV mX8_copy := ⟨ci_X8_copy, bw_711⟩
theorem cl_RX3_67 : CL RX3 67 mX1_copy := Or.inl bw_714
theorem cm_X1_copy : CM mX1_copy 1 := ⟨bw_717, bw_9, ⟨by decide, by decide⟩, by decide +kernel, rfl⟩
theorem ci_X1_copy : Cond.instanceMethod (mY mX1_copy) ∈ BIG := bw_715
theorem cv_X1_copy : CV mX1_copy := ⟨ci_X1_copy, bw_716⟩
theorem fg_RX4_11 : FG RX4 11 4 2 := ⟨RX4, TX4, 6, rfl, by decide, rfl, inB4, rfl, Or.inl bw_305⟩
theorem fp_RX4_11 : FP RX4 11 4 2 (tyX4 2) true := ⟨fg_RX4_11, RX4, TX4, 6, tyX4, rfl, tyX4_ok, nmX4, rfl, by decide +kernel⟩
theorem fg_RX4_15 : FG RX4 15 4 3 := ⟨RX4, TX4, 6, rfl, by decide, rfl, inB4, rfl, Or.inl bw_306⟩
theorem fp_RX4_15 : FP RX4 15 4 3 (tyX4 3) true := ⟨fg_RX4_15, RX4, TX4, 6, tyX4, rfl, tyX4_ok, nmX4, rfl, by decide +kernel⟩
theorem fg_RX4_18 : FG RX4 18 4 0 := ⟨RX4, TX4, 6, rfl, by decide, rfl, inB4, rfl, Or.inl bw_303⟩
theorem fp_RX4_18 : FP RX4 18 4 0 (tyX4 0) true := ⟨fg_RX4_18, RX4, TX4, 6, tyX4, rfl, tyX4_ok, nmX4, rfl, by decide +kernel⟩
theorem fg_RX4_22 : FG RX4 22 4 1 := ⟨RX4, TX4, 6, rfl, by decide, rfl, inB4, rfl, Or.inl bw_304⟩
theorem fp_RX4_22 : FP RX4 22 4 1 (tyX4 1) true := ⟨fg_RX4_22, RX4, TX4, 6, tyX4, rfl, tyX4_ok, nmX4, rfl, by decide +kernel⟩
theorem cl_RX4_26 : CL RX4 26 mX4_clear := Or.inl bw_519
theorem cm_X4_clear : CM mX4_clear 1 := ⟨bw_521, bw_11, ⟨by decide, by decide⟩, by decide +kernel, rfl⟩
theorem cs_X4_clear : Cond.static (mY mX4_clear) ∈ BIG := bw_520
theorem fg_RX4_30 : FG RX4 30 0 2 := ⟨RX0, TX0, 3, rfl, by decide, rfl, inB0, rfl, Or.inr ⟨_, nw_90⟩⟩
theorem fg_RX4_36 : FG RX4 36 0 1 := ⟨RX0, TX0, 3, rfl, by decide, rfl, inB0, rfl, Or.inr ⟨_, nw_89⟩⟩
theorem cl_RX4_39 : CL RX4 39 mX4_mark := Or.inl bw_522
theorem cm_X4_mark : CM mX4_mark 3 := ⟨bw_524, bw_11, ⟨by decide, by decide⟩, by decide +kernel, rfl⟩
theorem cs_X4_mark : Cond.static (mY mX4_mark) ∈ BIG := bw_523
theorem fg_RX4_43 : FG RX4 43 8 4 := ⟨RX8, TX8, 5, rfl, by decide, rfl, inB8, rfl, Or.inr ⟨_, nw_199⟩⟩
theorem fg_RX4_48 : FG RX4 48 2 0 := ⟨RX2, TX2, 12, rfl, by decide, rfl, inB2, rfl, Or.inr ⟨_, nw_130⟩⟩
theorem fg_RX4_53 : FG RX4 53 2 1 := ⟨RX2, TX2, 12, rfl, by decide, rfl, inB2, rfl, Or.inr ⟨_, nw_134⟩⟩
theorem cl_RX4_56 : CL RX4 56 mX8_concerns := Or.inl bw_530
theorem cm_X8_concerns : CM mX8_concerns 3 := ⟨bw_428, bw_8, ⟨by decide, by decide⟩, by decide +kernel, rfl⟩
theorem ci_X8_concerns : Cond.instanceMethod (mY mX8_concerns) ∈ BIG := bw_426
theorem cv_X8_concerns : CV mX8_concerns := ⟨ci_X8_concerns, bw_427⟩
theorem fg_RX4_60 : FG RX4 60 8 2 := ⟨RX8, TX8, 5, rfl, by decide, rfl, inB8, rfl, Or.inr ⟨_, nw_191⟩⟩
theorem fg_RX4_63 : FG RX4 63 8 3 := ⟨RX8, TX8, 5, rfl, by decide, rfl, inB8, rfl, Or.inr ⟨_, nw_195⟩⟩
theorem cl_RX4_68 : CL RX4 68 mX11_isDay := Or.inr ⟨_, nw_534⟩
theorem cm_X11_isDay : CM mX11_isDay 1 := ⟨bw_536, bw_1, ⟨by decide, by decide⟩, by decide +kernel, rfl⟩
theorem cs_X11_isDay : Cond.static (mY mX11_isDay) ∈ BIG := bw_535
theorem cl_RX4_72 : CL RX4 72 mX4_isMarked := Or.inl bw_531
theorem cm_X4_isMarked : CM mX4_isMarked 2 := ⟨bw_533, bw_11, ⟨by decide, by decide⟩, by decide +kernel, rfl⟩
theorem cs_X4_isMarked : Cond.static (mY mX4_isMarked) ∈ BIG := bw_532
theorem cl_RX4_76 : CL RX4 76 mX4_markHolidays := Or.inl bw_515
theorem cm_X4_markHolidays : CM mX4_markHolidays 0 := ⟨bw_518, bw_11, ⟨by decide, by decide⟩, by decide +kernel, rfl⟩
theorem ci_X4_markHolidays : Cond.instanceMethod (mY mX4_markHolidays) ∈ BIG := bw_517
theorem cv_X4_markHolidays : CV mX4_markHolidays := ⟨ci_X4_markHolidays, bs_13⟩
theorem cl_RX4_79 : CL RX4 79 mX4_isCourt := Or.inl bw_537
theorem cm_X4_isCourt : CM mX4_isCourt 1 := ⟨bw_540, bw_11, ⟨by decide, by decide⟩, by decide +kernel, rfl⟩
theorem ci_X4_isCourt : Cond.instanceMethod (mY mX4_isCourt) ∈ BIG := bw_539
theorem cv_X4_isCourt : CV mX4_isCourt := ⟨ci_X4_isCourt, bs_15⟩
theorem cl_RX4_82 : CL RX4 82 mX4_markStays := Or.inl bw_526
theorem cm_X4_markStays : CM mX4_markStays 2 := ⟨bw_529, bw_11, ⟨by decide, by decide⟩, by decide +kernel, rfl⟩
theorem ci_X4_markStays : Cond.instanceMethod (mY mX4_markStays) ∈ BIG := bw_528
theorem cv_X4_markStays : CV mX4_markStays := ⟨ci_X4_markStays, bs_14⟩
theorem cl_RX4_86 : CL RX4 86 mX4_walk := Or.inl bw_511
theorem cm_X4_walk : CM mX4_walk 3 := ⟨bw_514, bw_11, ⟨by decide, by decide⟩, by decide +kernel, rfl⟩
theorem ci_X4_walk : Cond.instanceMethod (mY mX4_walk) ∈ BIG := bw_513
theorem cv_X4_walk : CV mX4_walk := ⟨ci_X4_walk, bs_12⟩
theorem fg_RX4_90 : FG RX4 90 4 5 := ⟨RX4, TX4, 6, rfl, by decide, rfl, inB4, rfl, Or.inl bw_308⟩
theorem fg_RX4_93 : FG RX4 93 4 4 := ⟨RX4, TX4, 6, rfl, by decide, rfl, inB4, rfl, Or.inl bw_307⟩
theorem fg_RX4_96 : FG RX4 96 2 4 := ⟨RX2, TX2, 12, rfl, by decide, rfl, inB2, rfl, Or.inr ⟨_, nw_141⟩⟩
theorem fp_RX4_93 : FP RX4 93 4 4 .int false := ⟨fg_RX4_93, RX4, TX4, 6, tyX4, rfl, tyX4_ok, nmX4, rfl, by decide +kernel⟩
theorem fp_RX4_90 : FP RX4 90 4 5 .int false := ⟨fg_RX4_90, RX4, TX4, 6, tyX4, rfl, tyX4_ok, nmX4, rfl, by decide +kernel⟩
theorem fg_RX4_99 : FG RX4 99 2 2 := ⟨RX2, TX2, 12, rfl, by decide, rfl, inB2, rfl, Or.inr ⟨_, nw_137⟩⟩
theorem cl_RX4_102 : CL RX4 102 mX2_lengthOfPart := Or.inl bw_541
theorem cl_RX4_106 : CL RX4 106 mX2_partCountsCourt := Or.inl bw_542
theorem cm_X2_partCountsCourt : CM mX2_partCountsCourt 2 := ⟨bw_439, bw_7, ⟨by decide, by decide⟩, by decide +kernel, rfl⟩
theorem ci_X2_partCountsCourt : Cond.instanceMethod (mY mX2_partCountsCourt) ∈ BIG := bw_437
theorem cv_X2_partCountsCourt : CV mX2_partCountsCourt := ⟨ci_X2_partCountsCourt, bw_438⟩
theorem fg_RX5_9 : FG RX5 9 5 0 := ⟨RX5, TX5, 3, rfl, by decide, rfl, inB5, rfl, Or.inl bw_66⟩
theorem fp_RX5_9 : FP RX5 9 5 0 (tyX5 0) true := ⟨fg_RX5_9, RX5, TX5, 3, tyX5, rfl, tyX5_ok, nmX5, rfl, by decide +kernel⟩
theorem fg_RX5_15 : FG RX5 15 5 1 := ⟨RX5, TX5, 3, rfl, by decide, rfl, inB5, rfl, Or.inl bw_68⟩
theorem fp_RX5_15 : FP RX5 15 5 1 (tyX5 1) true := ⟨fg_RX5_15, RX5, TX5, 3, tyX5, rfl, tyX5_ok, nmX5, rfl, by decide +kernel⟩
theorem fg_RX5_24 : FG RX5 24 5 2 := ⟨RX5, TX5, 3, rfl, by decide, rfl, inB5, rfl, Or.inl bw_70⟩
theorem fp_RX5_24 : FP RX5 24 5 2 .int false := ⟨fg_RX5_24, RX5, TX5, 3, tyX5, rfl, tyX5_ok, nmX5, rfl, by decide +kernel⟩
theorem cl_RX5_28 : CL RX5 28 mX5_isNamed := Or.inl bw_754
theorem cm_X5_isNamed : CM mX5_isNamed 3 := ⟨bw_757, bw_4, ⟨by decide, by decide⟩, by decide +kernel, rfl⟩
theorem ci_X5_isNamed : Cond.instanceMethod (mY mX5_isNamed) ∈ BIG := bw_756
theorem cv_X5_isNamed : CV mX5_isNamed := ⟨ci_X5_isNamed, bs_22⟩
theorem fg_RX6_9 : FG RX6 9 6 0 := ⟨RX6, TX6, 6, rfl, by decide, rfl, inB6, rfl, Or.inl bw_329⟩
theorem fp_RX6_9 : FP RX6 9 6 0 (tyX6 0) true := ⟨fg_RX6_9, RX6, TX6, 6, tyX6, rfl, tyX6_ok, nmX6, rfl, by decide +kernel⟩
theorem fg_RX6_15 : FG RX6 15 6 1 := ⟨RX6, TX6, 6, rfl, by decide, rfl, inB6, rfl, Or.inl bw_331⟩
theorem fp_RX6_15 : FP RX6 15 6 1 (tyX6 1) true := ⟨fg_RX6_15, RX6, TX6, 6, tyX6, rfl, tyX6_ok, nmX6, rfl, by decide +kernel⟩
theorem fg_RX6_18 : FG RX6 18 6 2 := ⟨RX6, TX6, 6, rfl, by decide, rfl, inB6, rfl, Or.inl bw_333⟩
theorem fp_RX6_18 : FP RX6 18 6 2 (tyX6 2) true := ⟨fg_RX6_18, RX6, TX6, 6, tyX6, rfl, tyX6_ok, nmX6, rfl, by decide +kernel⟩
theorem fg_RX6_21 : FG RX6 21 6 3 := ⟨RX6, TX6, 6, rfl, by decide, rfl, inB6, rfl, Or.inl bw_335⟩
theorem fp_RX6_21 : FP RX6 21 6 3 (tyX6 3) true := ⟨fg_RX6_21, RX6, TX6, 6, tyX6, rfl, tyX6_ok, nmX6, rfl, by decide +kernel⟩
theorem fg_RX6_25 : FG RX6 25 6 4 := ⟨RX6, TX6, 6, rfl, by decide, rfl, inB6, rfl, Or.inl bw_337⟩
theorem fp_RX6_25 : FP RX6 25 6 4 .int false := ⟨fg_RX6_25, RX6, TX6, 6, tyX6, rfl, tyX6_ok, nmX6, rfl, by decide +kernel⟩
theorem fg_RX6_29 : FG RX6 29 6 5 := ⟨RX6, TX6, 6, rfl, by decide, rfl, inB6, rfl, Or.inl bw_339⟩
theorem fp_RX6_29 : FP RX6 29 6 5 .int false := ⟨fg_RX6_29, RX6, TX6, 6, tyX6, rfl, tyX6_ok, nmX6, rfl, by decide +kernel⟩
theorem cl_RX6_32 : CL RX6 32 mX6_readCommand := Or.inl bw_1476
theorem cm_X6_readCommand : CM mX6_readCommand 1 := ⟨bw_1479, bw_12, ⟨by decide, by decide⟩, by decide +kernel, rfl⟩
theorem ci_X6_readCommand : Cond.instanceMethod (mY mX6_readCommand) ∈ BIG := bw_1478
theorem cv_X6_readCommand : CV mX6_readCommand := ⟨ci_X6_readCommand, bs_50⟩
theorem fg_RX6_36 : FG RX6 36 9 1 := ⟨RX9, TX9, 2, rfl, by decide, rfl, inB9, rfl, Or.inr ⟨_, nw_47⟩⟩
theorem cl_RX6_41 : CL RX6 41 mX6_readSign := Or.inl bw_1564
theorem cm_X6_readSign : CM mX6_readSign 2 := ⟨bw_1567, bw_12, ⟨by decide, by decide⟩, by decide +kernel, rfl⟩
theorem ci_X6_readSign : Cond.instanceMethod (mY mX6_readSign) ∈ BIG := bw_1566
theorem cv_X6_readSign : CV mX6_readSign := ⟨ci_X6_readSign, bs_57⟩
theorem cl_RX6_45 : CL RX6 45 mX6_readVerb := Or.inl bw_1480
theorem cm_X6_readVerb : CM mX6_readVerb 1 := ⟨bw_1483, bw_12, ⟨by decide, by decide⟩, by decide +kernel, rfl⟩
theorem ci_X6_readVerb : Cond.instanceMethod (mY mX6_readVerb) ∈ BIG := bw_1482
theorem cv_X6_readVerb : CV mX6_readVerb := ⟨ci_X6_readVerb, bs_51⟩
theorem cl_RX6_49 : CL RX6 49 mX6_readValues := Or.inl bw_1548
theorem cm_X6_readValues : CM mX6_readValues 2 := ⟨bw_1551, bw_12, ⟨by decide, by decide⟩, by decide +kernel, rfl⟩
theorem ci_X6_readValues : Cond.instanceMethod (mY mX6_readValues) ∈ BIG := bw_1550
theorem cv_X6_readValues : CV mX6_readValues := ⟨ci_X6_readValues, bs_53⟩
theorem cl_RX6_53 : CL RX6 53 mX6_wordOf := Or.inl bw_1484
theorem cm_X6_wordOf : CM mX6_wordOf 1 := ⟨bw_1486, bw_12, ⟨by decide, by decide⟩, by decide +kernel, rfl⟩
theorem cs_X6_wordOf : Cond.static (mY mX6_wordOf) ∈ BIG := bw_1485
theorem cl_RX6_57 : CL RX6 57 mX6_countCommon := Or.inl bw_1494
theorem cm_X6_countCommon : CM mX6_countCommon 2 := ⟨bw_1497, bw_12, ⟨by decide, by decide⟩, by decide +kernel, rfl⟩
theorem ci_X6_countCommon : Cond.instanceMethod (mY mX6_countCommon) ∈ BIG := bw_1496
theorem cv_X6_countCommon : CV mX6_countCommon := ⟨ci_X6_countCommon, bs_52⟩
theorem cl_RX6_86 : CL RX6 86 mX9_signAt := Or.inl bw_1508
theorem cm_X9_signAt : CM mX9_signAt 1 := ⟨bw_736, bw_2, ⟨by decide, by decide⟩, by decide +kernel, rfl⟩
theorem ci_X9_signAt : Cond.instanceMethod (mY mX9_signAt) ∈ BIG := bw_734
theorem cv_X9_signAt : CV mX9_signAt := ⟨ci_X9_signAt, bw_735⟩
theorem cl_RX6_93 : CL RX6 93 mX6_readServe := Or.inl bw_1552
theorem cm_X6_readServe : CM mX6_readServe 1 := ⟨bw_1555, bw_12, ⟨by decide, by decide⟩, by decide +kernel, rfl⟩
theorem ci_X6_readServe : Cond.instanceMethod (mY mX6_readServe) ∈ BIG := bw_1554
theorem cv_X6_readServe : CV mX6_readServe := ⟨ci_X6_readServe, bs_54⟩
theorem cl_RX6_96 : CL RX6 96 mX6_readDays := Or.inl bw_1577
theorem cm_X6_readDays : CM mX6_readDays 1 := ⟨bw_1580, bw_12, ⟨by decide, by decide⟩, by decide +kernel, rfl⟩
theorem ci_X6_readDays : Cond.instanceMethod (mY mX6_readDays) ∈ BIG := bw_1579
theorem cv_X6_readDays : CV mX6_readDays := ⟨ci_X6_readDays, bs_60⟩
theorem cl_RX6_99 : CL RX6 99 mX6_readFirst := Or.inl bw_1556
theorem cm_X6_readFirst : CM mX6_readFirst 2 := ⟨bw_1559, bw_12, ⟨by decide, by decide⟩, by decide +kernel, rfl⟩
theorem ci_X6_readFirst : Cond.instanceMethod (mY mX6_readFirst) ∈ BIG := bw_1558
theorem cv_X6_readFirst : CV mX6_readFirst := ⟨ci_X6_readFirst, bs_55⟩
theorem cl_RX6_102 : CL RX6 102 mX6_readSecond := Or.inl bw_1568
theorem cm_X6_readSecond : CM mX6_readSecond 2 := ⟨bw_1571, bw_12, ⟨by decide, by decide⟩, by decide +kernel, rfl⟩
theorem ci_X6_readSecond : Cond.instanceMethod (mY mX6_readSecond) ∈ BIG := bw_1570
theorem cv_X6_readSecond : CV mX6_readSecond := ⟨ci_X6_readSecond, bs_58⟩
theorem cl_RX6_105 : CL RX6 105 mX6_readWay := Or.inl bw_1572
theorem cm_X6_readWay : CM mX6_readWay 1 := ⟨bw_1575, bw_12, ⟨by decide, by decide⟩, by decide +kernel, rfl⟩
theorem ci_X6_readWay : Cond.instanceMethod (mY mX6_readWay) ∈ BIG := bw_1574
theorem cv_X6_readWay : CV mX6_readWay := ⟨ci_X6_readWay, bs_59⟩
theorem cl_RX6_108 : CL RX6 108 mX6_readNumber := Or.inl bw_1560
theorem cm_X6_readNumber : CM mX6_readNumber 2 := ⟨bw_1563, bw_12, ⟨by decide, by decide⟩, by decide +kernel, rfl⟩
theorem ci_X6_readNumber : Cond.instanceMethod (mY mX6_readNumber) ∈ BIG := bw_1562
theorem cv_X6_readNumber : CV mX6_readNumber := ⟨ci_X6_readNumber, bs_56⟩
theorem cl_RX6_112 : CL RX6 112 mX7_placeOfWay := Or.inl bw_1576
theorem cm_X7_placeOfWay : CM mX7_placeOfWay 1 := ⟨bw_1026, bw_6, ⟨by decide, by decide⟩, by decide +kernel, rfl⟩
theorem cs_X7_placeOfWay : Cond.static (mY mX7_placeOfWay) ∈ BIG := bw_1025
theorem fg_RX7_9 : FG RX7 9 7 0 := ⟨RX7, TX7, 3, rfl, by decide, rfl, inB7, rfl, Or.inl bw_106⟩
theorem fp_RX7_9 : FP RX7 9 7 0 (tyX7 0) true := ⟨fg_RX7_9, RX7, TX7, 3, tyX7, rfl, tyX7_ok, nmX7, rfl, by decide +kernel⟩
theorem fg_RX7_15 : FG RX7 15 7 1 := ⟨RX7, TX7, 3, rfl, by decide, rfl, inB7, rfl, Or.inl bw_109⟩
theorem fp_RX7_15 : FP RX7 15 7 1 (tyX7 1) true := ⟨fg_RX7_15, RX7, TX7, 3, tyX7, rfl, tyX7_ok, nmX7, rfl, by decide +kernel⟩
theorem fg_RX7_19 : FG RX7 19 7 2 := ⟨RX7, TX7, 3, rfl, by decide, rfl, inB7, rfl, Or.inl bw_112⟩
theorem fp_RX7_19 : FP RX7 19 7 2 (tyX7 2) true := ⟨fg_RX7_19, RX7, TX7, 3, tyX7, rfl, tyX7_ok, nmX7, rfl, by decide +kernel⟩
theorem fg_RX8_9 : FG RX8 9 8 0 := ⟨RX8, TX8, 5, rfl, by decide, rfl, inB8, rfl, Or.inl bw_187⟩
theorem fp_RX8_9 : FP RX8 9 8 0 (tyX8 0) true := ⟨fg_RX8_9, RX8, TX8, 5, tyX8, rfl, tyX8_ok, nmX8, rfl, by decide +kernel⟩
theorem fg_RX8_15 : FG RX8 15 8 1 := ⟨RX8, TX8, 5, rfl, by decide, rfl, inB8, rfl, Or.inl bw_188⟩
theorem fp_RX8_15 : FP RX8 15 8 1 (tyX8 1) true := ⟨fg_RX8_15, RX8, TX8, 5, tyX8, rfl, tyX8_ok, nmX8, rfl, by decide +kernel⟩
theorem fg_RX8_18 : FG RX8 18 8 2 := ⟨RX8, TX8, 5, rfl, by decide, rfl, inB8, rfl, Or.inl bw_189⟩
theorem fp_RX8_18 : FP RX8 18 8 2 (tyX8 2) true := ⟨fg_RX8_18, RX8, TX8, 5, tyX8, rfl, tyX8_ok, nmX8, rfl, by decide +kernel⟩
theorem fg_RX8_21 : FG RX8 21 8 3 := ⟨RX8, TX8, 5, rfl, by decide, rfl, inB8, rfl, Or.inl bw_193⟩
theorem fp_RX8_21 : FP RX8 21 8 3 (tyX8 3) true := ⟨fg_RX8_21, RX8, TX8, 5, tyX8, rfl, tyX8_ok, nmX8, rfl, by decide +kernel⟩
theorem fg_RX8_30 : FG RX8 30 8 4 := ⟨RX8, TX8, 5, rfl, by decide, rfl, inB8, rfl, Or.inl bw_198⟩
theorem fp_RX8_30 : FP RX8 30 8 4 .int false := ⟨fg_RX8_30, RX8, TX8, 5, tyX8, rfl, tyX8_ok, nmX8, rfl, by decide +kernel⟩
theorem cl_RX8_34 : CL RX8 34 mX8_isInForce := Or.inl bw_495
theorem cm_X8_isInForce : CM mX8_isInForce 1 := ⟨bw_498, bw_8, ⟨by decide, by decide⟩, by decide +kernel, rfl⟩
theorem ci_X8_isInForce : Cond.instanceMethod (mY mX8_isInForce) ∈ BIG := bw_496
theorem cv_X8_isInForce : CV mX8_isInForce := ⟨ci_X8_isInForce, bw_497⟩
theorem fg_RX9_9 : FG RX9 9 9 0 := ⟨RX9, TX9, 2, rfl, by decide, rfl, inB9, rfl, Or.inl bw_44⟩
theorem fp_RX9_9 : FP RX9 9 9 0 (tyX9 0) true := ⟨fg_RX9_9, RX9, TX9, 2, tyX9, rfl, tyX9_ok, nmX9, rfl, by decide +kernel⟩
theorem fg_RX9_15 : FG RX9 15 9 1 := ⟨RX9, TX9, 2, rfl, by decide, rfl, inB9, rfl, Or.inl bw_45⟩
theorem fp_RX9_15 : FP RX9 15 9 1 .int false := ⟨fg_RX9_15, RX9, TX9, 2, tyX9, rfl, tyX9_ok, nmX9, rfl, by decide +kernel⟩
theorem cl_RX9_20 : CL RX9 20 mX9_append := Or.inl bw_897
theorem cm_X9_append : CM mX9_append 1 := ⟨bw_670, bw_2, ⟨by decide, by decide⟩, by decide +kernel, rfl⟩
theorem ci_X9_append : Cond.instanceMethod (mY mX9_append) ∈ BIG := bw_668
theorem cv_X9_append : CV mX9_append := ⟨ci_X9_append, bw_669⟩
theorem cl_RX9_26 : CL RX9 26 mX9_isHigh := Or.inl bw_728
theorem cm_X9_isHigh : CM mX9_isHigh 1 := ⟨bw_730, bw_2, ⟨by decide, by decide⟩, by decide +kernel, rfl⟩
theorem cs_X9_isHigh : Cond.static (mY mX9_isHigh) ∈ BIG := bw_729
theorem cl_RX9_30 : CL RX9 30 mX9_signAt := Or.inl bw_733
theorem cl_RX9_34 : CL RX9 34 mX9_isLow := Or.inl bw_737
theorem cm_X9_isLow : CM mX9_isLow 1 := ⟨bw_739, bw_2, ⟨by decide, by decide⟩, by decide +kernel, rfl⟩
theorem cs_X9_isLow : Cond.static (mY mX9_isLow) ∈ BIG := bw_738
theorem cl_RX9_37 : CL RX9 37 mX9_joinPair := Or.inl bw_742
theorem cm_X9_joinPair : CM mX9_joinPair 2 := ⟨bw_744, bw_2, ⟨by decide, by decide⟩, by decide +kernel, rfl⟩
theorem cs_X9_joinPair : Cond.static (mY mX9_joinPair) ∈ BIG := bw_743
theorem fg_RX10_9 : FG RX10 9 10 2 := ⟨RX10, TX10, 5, rfl, by decide, rfl, inB10, rfl, Or.inl bw_283⟩
theorem fp_RX10_9 : FP RX10 9 10 2 (tyX10 2) true := ⟨fg_RX10_9, RX10, TX10, 5, tyX10, rfl, tyX10_ok, nmX10, rfl, by decide +kernel⟩
theorem fg_RX10_15 : FG RX10 15 10 3 := ⟨RX10, TX10, 5, rfl, by decide, rfl, inB10, rfl, Or.inl bw_284⟩
theorem fp_RX10_15 : FP RX10 15 10 3 (tyX10 3) true := ⟨fg_RX10_15, RX10, TX10, 5, tyX10, rfl, tyX10_ok, nmX10, rfl, by decide +kernel⟩
theorem fg_RX10_18 : FG RX10 18 10 0 := ⟨RX10, TX10, 5, rfl, by decide, rfl, inB10, rfl, Or.inl bw_281⟩
theorem fp_RX10_18 : FP RX10 18 10 0 (tyX10 0) true := ⟨fg_RX10_18, RX10, TX10, 5, tyX10, rfl, tyX10_ok, nmX10, rfl, by decide +kernel⟩
theorem fg_RX10_22 : FG RX10 22 10 1 := ⟨RX10, TX10, 5, rfl, by decide, rfl, inB10, rfl, Or.inl bw_282⟩
theorem fp_RX10_22 : FP RX10 22 10 1 (tyX10 1) true := ⟨fg_RX10_22, RX10, TX10, 5, tyX10, rfl, tyX10_ok, nmX10, rfl, by decide +kernel⟩
theorem fg_RX10_26 : FG RX10 26 10 4 := ⟨RX10, TX10, 5, rfl, by decide, rfl, inB10, rfl, Or.inl bw_285⟩
theorem fp_RX10_26 : FP RX10 26 10 4 .int false := ⟨fg_RX10_26, RX10, TX10, 5, tyX10, rfl, tyX10_ok, nmX10, rfl, by decide +kernel⟩
theorem fg_RX10_30 : FG RX10 30 8 4 := ⟨RX8, TX8, 5, rfl, by decide, rfl, inB8, rfl, Or.inr ⟨_, nw_197⟩⟩
theorem fg_RX10_35 : FG RX10 35 2 0 := ⟨RX2, TX2, 12, rfl, by decide, rfl, inB2, rfl, Or.inr ⟨_, nw_129⟩⟩
theorem fg_RX10_40 : FG RX10 40 2 1 := ⟨RX2, TX2, 12, rfl, by decide, rfl, inB2, rfl, Or.inr ⟨_, nw_133⟩⟩
theorem cl_RX10_43 : CL RX10 43 mX8_concerns := Or.inl bw_425
theorem fg_RX10_47 : FG RX10 47 8 2 := ⟨RX8, TX8, 5, rfl, by decide, rfl, inB8, rfl, Or.inr ⟨_, nw_190⟩⟩
theorem fg_RX10_50 : FG RX10 50 8 3 := ⟨RX8, TX8, 5, rfl, by decide, rfl, inB8, rfl, Or.inr ⟨_, nw_194⟩⟩
theorem cl_RX10_53 : CL RX10 53 mX10_joinRange := Or.inl bw_429
theorem cm_X10_joinRange : CM mX10_joinRange 2 := ⟨bw_432, bw_10, ⟨by decide, by decide⟩, by decide +kernel, rfl⟩
theorem ci_X10_joinRange : Cond.instanceMethod (mY mX10_joinRange) ∈ BIG := bw_431
theorem cv_X10_joinRange : CV mX10_joinRange := ⟨ci_X10_joinRange, bs_2⟩
theorem cl_RX10_63 : CL RX10 63 mX10_takeStays := Or.inl bw_421
theorem cm_X10_takeStays : CM mX10_takeStays 2 := ⟨bw_424, bw_10, ⟨by decide, by decide⟩, by decide +kernel, rfl⟩
theorem ci_X10_takeStays : Cond.instanceMethod (mY mX10_takeStays) ∈ BIG := bw_423
theorem cv_X10_takeStays : CV mX10_takeStays := ⟨ci_X10_takeStays, bs_1⟩
theorem fg_RX10_70 : FG RX10 70 2 2 := ⟨RX2, TX2, 12, rfl, by decide, rfl, inB2, rfl, Or.inr ⟨_, nw_136⟩⟩
theorem fg_RX10_73 : FG RX10 73 2 4 := ⟨RX2, TX2, 12, rfl, by decide, rfl, inB2, rfl, Or.inr ⟨_, nw_140⟩⟩
theorem cl_RX10_76 : CL RX10 76 mX2_partCountsCourt := Or.inl bw_436
theorem cl_RX10_80 : CL RX10 80 mX2_lengthOfPart := Or.inl bw_440
theorem cl_RX10_83 : CL RX10 83 mX10_dayOfCount := Or.inl bw_444
theorem cm_X10_dayOfCount : CM mX10_dayOfCount 3 := ⟨bw_447, bw_10, ⟨by decide, by decide⟩, by decide +kernel, rfl⟩
theorem ci_X10_dayOfCount : Cond.instanceMethod (mY mX10_dayOfCount) ∈ BIG := bw_446
theorem cv_X10_dayOfCount : CV mX10_dayOfCount := ⟨ci_X10_dayOfCount, bs_3⟩
theorem cl_RX10_87 : CL RX10 87 mX10_moveEnd := Or.inl bw_479
theorem cm_X10_moveEnd : CM mX10_moveEnd 1 := ⟨bw_482, bw_10, ⟨by decide, by decide⟩, by decide +kernel, rfl⟩
theorem ci_X10_moveEnd : Cond.instanceMethod (mY mX10_moveEnd) ∈ BIG := bw_481
theorem cv_X10_moveEnd : CV mX10_moveEnd := ⟨ci_X10_moveEnd, bs_9⟩
theorem cl_RX10_91 : CL RX10 91 mX10_countFree := Or.inl bw_547
theorem cm_X10_countFree : CM mX10_countFree 3 := ⟨bw_550, bw_10, ⟨by decide, by decide⟩, by decide +kernel, rfl⟩
theorem ci_X10_countFree : Cond.instanceMethod (mY mX10_countFree) ∈ BIG := bw_549
theorem cv_X10_countFree : CV mX10_countFree := ⟨ci_X10_countFree, bs_16⟩
theorem cl_RX10_94 : CL RX10 94 mX10_lastDayOfGap := Or.inl bw_448
theorem cm_X10_lastDayOfGap : CM mX10_lastDayOfGap 1 := ⟨bw_451, bw_10, ⟨by decide, by decide⟩, by decide +kernel, rfl⟩
theorem ci_X10_lastDayOfGap : Cond.instanceMethod (mY mX10_lastDayOfGap) ∈ BIG := bw_450
theorem cv_X10_lastDayOfGap : CV mX10_lastDayOfGap := ⟨ci_X10_lastDayOfGap, bs_4⟩
theorem cl_RX10_97 : CL RX10 97 mX10_countDays := Or.inl bw_452
theorem cm_X10_countDays : CM mX10_countDays 3 := ⟨bw_455, bw_10, ⟨by decide, by decide⟩, by decide +kernel, rfl⟩
theorem ci_X10_countDays : Cond.instanceMethod (mY mX10_countDays) ∈ BIG := bw_454
theorem cv_X10_countDays : CV mX10_countDays := ⟨ci_X10_countDays, bs_5⟩
theorem cl_RX10_100 : CL RX10 100 mX10_courtDayOfCount := Or.inl bw_460
theorem cm_X10_courtDayOfCount : CM mX10_courtDayOfCount 2 := ⟨bw_463, bw_10, ⟨by decide, by decide⟩, by decide +kernel, rfl⟩
theorem ci_X10_courtDayOfCount : Cond.instanceMethod (mY mX10_courtDayOfCount) ∈ BIG := bw_462
theorem cv_X10_courtDayOfCount : CV mX10_courtDayOfCount := ⟨ci_X10_courtDayOfCount, bs_6⟩
theorem cl_RX10_103 : CL RX10 103 mX10_dayBehindRange := Or.inl bw_475
theorem cm_X10_dayBehindRange : CM mX10_dayBehindRange 2 := ⟨bw_478, bw_10, ⟨by decide, by decide⟩, by decide +kernel, rfl⟩
theorem ci_X10_dayBehindRange : Cond.instanceMethod (mY mX10_dayBehindRange) ∈ BIG := bw_477
theorem cv_X10_dayBehindRange : CV mX10_dayBehindRange := ⟨ci_X10_dayBehindRange, bs_8⟩
theorem cl_RX10_106 : CL RX10 106 mX0_countCourt := Or.inl bw_456
theorem cm_X0_countCourt : CM mX0_countCourt 2 := ⟨bw_459, bw_5, ⟨by decide, by decide⟩, by decide +kernel, rfl⟩
theorem ci_X0_countCourt : Cond.instanceMethod (mY mX0_countCourt) ∈ BIG := bw_457
theorem cv_X0_countCourt : CV mX0_countCourt := ⟨ci_X0_countCourt, bw_458⟩
theorem cl_RX10_111 : CL RX10 111 mX0_isCourt := Or.inl bw_467
theorem cm_X0_isCourt : CM mX0_isCourt 1 := ⟨bw_470, bw_5, ⟨by decide, by decide⟩, by decide +kernel, rfl⟩
theorem ci_X0_isCourt : Cond.instanceMethod (mY mX0_isCourt) ∈ BIG := bw_468
theorem cv_X0_isCourt : CV mX0_isCourt := ⟨ci_X0_isCourt, bw_469⟩
theorem cl_RX10_115 : CL RX10 115 mX10_skipRange := Or.inl bw_483
theorem cm_X10_skipRange : CM mX10_skipRange 1 := ⟨bw_486, bw_10, ⟨by decide, by decide⟩, by decide +kernel, rfl⟩
theorem ci_X10_skipRange : Cond.instanceMethod (mY mX10_skipRange) ∈ BIG := bw_485
theorem cv_X10_skipRange : CV mX10_skipRange := ⟨ci_X10_skipRange, bs_10⟩
theorem cl_RX10_118 : CL RX10 118 mX10_dayOfCountBack := Or.inl bw_1046
theorem cm_X10_dayOfCountBack : CM mX10_dayOfCountBack 2 := ⟨bw_1049, bw_10, ⟨by decide, by decide⟩, by decide +kernel, rfl⟩
theorem ci_X10_dayOfCountBack : Cond.instanceMethod (mY mX10_dayOfCountBack) ∈ BIG := bw_1048
theorem cv_X10_dayOfCountBack : CV mX10_dayOfCountBack := ⟨ci_X10_dayOfCountBack, bs_30⟩
theorem fn_RX11_9 : FN RX11 9 9 := ⟨RX9, TX9, 2, tyX9, rfl, rfl, inB9, tyX9_ok, by decide +kernel, bw_38, bw_39, bw_2⟩
theorem cl_RX11_11 : CL RX11 11 mX9_init := Or.inr ⟨_, nw_40⟩
theorem cm_X9_init : CM mX9_init 0 := ⟨bw_42, bw_2, ⟨by decide, by decide⟩, by decide +kernel, rfl⟩
theorem ci_X9_init : Cond.instanceMethod (mY mX9_init) ∈ BIG := bw_41
theorem fg_RX11_12 : FG RX11 12 11 0 := ⟨RX11, TX11, 13, rfl, by decide, rfl, inB11, rfl, Or.inl bw_353⟩
theorem fp_RX11_12 : FP RX11 12 11 0 (tyX11 0) true := ⟨fg_RX11_12, RX11, TX11, 13, tyX11, rfl, tyX11_ok, nmX11, rfl, by decide +kernel⟩
theorem fg_RX11_16 : FG RX11 16 11 1 := ⟨RX11, TX11, 13, rfl, by decide, rfl, inB11, rfl, Or.inl bw_354⟩
theorem fp_RX11_16 : FP RX11 16 11 1 (tyX11 1) true := ⟨fg_RX11_16, RX11, TX11, 13, tyX11, rfl, tyX11_ok, nmX11, rfl, by decide +kernel⟩
theorem fg_RX11_19 : FG RX11 19 11 2 := ⟨RX11, TX11, 13, rfl, by decide, rfl, inB11, rfl, Or.inl bw_355⟩
theorem fp_RX11_19 : FP RX11 19 11 2 (tyX11 2) true := ⟨fg_RX11_19, RX11, TX11, 13, tyX11, rfl, tyX11_ok, nmX11, rfl, by decide +kernel⟩
theorem fn_RX11_23 : FN RX11 23 3 := ⟨RX3, TX3, 6, tyX3, rfl, rfl, inB3, tyX3_ok, by decide +kernel, bw_54, bw_55, bw_3⟩
theorem cl_RX11_25 : CL RX11 25 mX3_init := Or.inr ⟨_, nw_56⟩
theorem cm_X3_init : CM mX3_init 0 := ⟨bw_58, bw_3, ⟨by decide, by decide⟩, by decide +kernel, rfl⟩
theorem ci_X3_init : Cond.instanceMethod (mY mX3_init) ∈ BIG := bw_57
theorem fg_RX11_26 : FG RX11 26 11 3 := ⟨RX11, TX11, 13, rfl, by decide, rfl, inB11, rfl, Or.inl bw_356⟩
theorem fp_RX11_26 : FP RX11 26 11 3 (tyX11 3) true := ⟨fg_RX11_26, RX11, TX11, 13, tyX11, rfl, tyX11_ok, nmX11, rfl, by decide +kernel⟩
theorem fg_RX11_30 : FG RX11 30 11 4 := ⟨RX11, TX11, 13, rfl, by decide, rfl, inB11, rfl, Or.inl bw_357⟩
theorem fp_RX11_30 : FP RX11 30 11 4 (tyX11 4) true := ⟨fg_RX11_30, RX11, TX11, 13, tyX11, rfl, tyX11_ok, nmX11, rfl, by decide +kernel⟩
theorem fn_RX11_34 : FN RX11 34 10 := ⟨RX10, TX10, 5, tyX10, rfl, rfl, inB10, tyX10_ok, by decide +kernel, bw_275, bw_276, bw_10⟩
theorem fg_RX11_36 : FG RX11 36 3 1 := ⟨RX3, TX3, 6, rfl, by decide, rfl, inB3, rfl, Or.inr ⟨_, nw_252⟩⟩
theorem fg_RX11_40 : FG RX11 40 3 4 := ⟨RX3, TX3, 6, rfl, by decide, rfl, inB3, rfl, Or.inr ⟨_, nw_258⟩⟩
theorem cl_RX11_44 : CL RX11 44 mX10_init := Or.inl bw_277
theorem cm_X10_init : CM mX10_init 2 := ⟨bw_279, bw_10, ⟨by decide, by decide⟩, by decide +kernel, rfl⟩
theorem ci_X10_init : Cond.instanceMethod (mY mX10_init) ∈ BIG := bw_278
theorem fg_RX11_47 : FG RX11 47 11 7 := ⟨RX11, TX11, 13, rfl, by decide, rfl, inB11, rfl, Or.inl bw_360⟩
theorem fp_RX11_47 : FP RX11 47 11 7 (tyX11 7) true := ⟨fg_RX11_47, RX11, TX11, 13, tyX11, rfl, tyX11_ok, nmX11, rfl, by decide +kernel⟩
theorem fn_RX11_51 : FN RX11 51 4 := ⟨RX4, TX4, 6, tyX4, rfl, rfl, inB4, tyX4_ok, by decide +kernel, bw_297, bw_298, bw_11⟩
theorem cl_RX11_53 : CL RX11 53 mX4_init := Or.inl bw_299
theorem cm_X4_init : CM mX4_init 2 := ⟨bw_301, bw_11, ⟨by decide, by decide⟩, by decide +kernel, rfl⟩
theorem ci_X4_init : Cond.instanceMethod (mY mX4_init) ∈ BIG := bw_300
theorem fg_RX11_54 : FG RX11 54 11 8 := ⟨RX11, TX11, 13, rfl, by decide, rfl, inB11, rfl, Or.inl bw_361⟩
theorem fp_RX11_54 : FP RX11 54 11 8 (tyX11 8) true := ⟨fg_RX11_54, RX11, TX11, 13, tyX11, rfl, tyX11_ok, nmX11, rfl, by decide +kernel⟩
theorem fg_RX11_58 : FG RX11 58 11 9 := ⟨RX11, TX11, 13, rfl, by decide, rfl, inB11, rfl, Or.inl bw_362⟩
theorem fp_RX11_58 : FP RX11 58 11 9 (tyX11 9) true := ⟨fg_RX11_58, RX11, TX11, 13, tyX11, rfl, tyX11_ok, nmX11, rfl, by decide +kernel⟩
theorem fn_RX11_61 : FN RX11 61 6 := ⟨RX6, TX6, 6, tyX6, rfl, rfl, inB6, tyX6_ok, by decide +kernel, bw_323, bw_324, bw_12⟩
theorem cl_RX11_63 : CL RX11 63 mX6_init := Or.inr ⟨_, nw_325⟩
theorem cm_X6_init : CM mX6_init 0 := ⟨bw_327, bw_12, ⟨by decide, by decide⟩, by decide +kernel, rfl⟩
theorem ci_X6_init : Cond.instanceMethod (mY mX6_init) ∈ BIG := bw_326
theorem fg_RX11_64 : FG RX11 64 11 10 := ⟨RX11, TX11, 13, rfl, by decide, rfl, inB11, rfl, Or.inl bw_363⟩
theorem fp_RX11_64 : FP RX11 64 11 10 (tyX11 10) true := ⟨fg_RX11_64, RX11, TX11, 13, tyX11, rfl, tyX11_ok, nmX11, rfl, by decide +kernel⟩
theorem fg_RX11_68 : FG RX11 68 11 11 := ⟨RX11, TX11, 13, rfl, by decide, rfl, inB11, rfl, Or.inl bw_364⟩
theorem fp_RX11_68 : FP RX11 68 11 11 .int false := ⟨fg_RX11_68, RX11, TX11, 13, tyX11, rfl, tyX11_ok, nmX11, rfl, by decide +kernel⟩
theorem fg_RX11_72 : FG RX11 72 11 12 := ⟨RX11, TX11, 13, rfl, by decide, rfl, inB11, rfl, Or.inl bw_365⟩
theorem fp_RX11_72 : FP RX11 72 11 12 .int false := ⟨fg_RX11_72, RX11, TX11, 13, tyX11, rfl, tyX11_ok, nmX11, rfl, by decide +kernel⟩
theorem fg_RX11_75 : FG RX11 75 9 1 := ⟨RX9, TX9, 2, rfl, by decide, rfl, inB9, rfl, Or.inr ⟨_, nw_46⟩⟩
theorem ta_RX11_78_82 : ∀ w ∈ vx_atS RX11 82 (XN 1) NMS, w ∈ BIG ∨ w ∈ NW := goodA _ [14, 617, 626, 634, 637, 639, 618, 619, 36, 37, 620, 625, 635, 655, 607, 656, 609, 657, 611, 621, 623, 613, 651, 652, 654, 613, 642, 643, 644, 645, 599, 645, 646, 647, 648, 601, 648, 649, 650, 651, 603, 641, 596, 597, 604, 605, 606, 608, 610, 612, 653, 615, 614] (by decide +kernel) (by decide +kernel)
theorem tg_RX11_78_82 : ∀ w ∈ Cond.classLink RX11 78 (XN 1) :: Cond.initialized (XN 1) :: vx_atS RX11 82 (XN 1) NMS, vx_ot w = true := by decide +kernel
theorem tk_RX11_78_82 : Cond.classLink RX11 78 (XN 1) ∈ BIG := bw_595
theorem ti_RX11_78_82 : Cond.initialized (XN 1) ∈ BIG := bw_17
theorem cl_RX11_85 : CL RX11 85 mX9_append := Or.inl bw_667
theorem cl_RX11_89 : CL RX11 89 mX11_setAside := Or.inl bw_679
theorem cm_X11_setAside : CM mX11_setAside 0 := ⟨bw_682, bw_1, ⟨by decide, by decide⟩, by decide +kernel, rfl⟩
theorem ci_X11_setAside : Cond.instanceMethod (mY mX11_setAside) ∈ BIG := bw_681
theorem cv_X11_setAside : CV mX11_setAside := ⟨ci_X11_setAside, bs_20⟩
theorem cl_RX11_92 : CL RX11 92 mX11_tryAddParty := Or.inl bw_720
theorem cm_X11_tryAddParty : CM mX11_tryAddParty 0 := ⟨bw_723, bw_1, ⟨by decide, by decide⟩, by decide +kernel, rfl⟩
theorem ci_X11_tryAddParty : Cond.instanceMethod (mY mX11_tryAddParty) ∈ BIG := bw_722
theorem cv_X11_tryAddParty : CV mX11_tryAddParty := ⟨ci_X11_tryAddParty, bs_21⟩
theorem cl_RX11_96 : CL RX11 96 mX11_settle := Or.inl bw_762
theorem cm_X11_settle : CM mX11_settle 1 := ⟨bw_765, bw_1, ⟨by decide, by decide⟩, by decide +kernel, rfl⟩
theorem ci_X11_settle : Cond.instanceMethod (mY mX11_settle) ∈ BIG := bw_764
theorem cv_X11_settle : CV mX11_settle := ⟨ci_X11_settle, bs_23⟩
theorem cl_RX11_100 : CL RX11 100 mX9_readName := Or.inl bw_724
theorem cm_X9_readName : CM mX9_readName 1 := ⟨bw_727, bw_2, ⟨by decide, by decide⟩, by decide +kernel, rfl⟩
theorem ci_X9_readName : Cond.instanceMethod (mY mX9_readName) ∈ BIG := bw_725
theorem cv_X9_readName : CV mX9_readName := ⟨ci_X9_readName, bw_726⟩
theorem cl_RX11_104 : CL RX11 104 mX9_clear := Or.inl bw_746
theorem cm_X9_clear : CM mX9_clear 0 := ⟨bw_749, bw_2, ⟨by decide, by decide⟩, by decide +kernel, rfl⟩
theorem ci_X9_clear : Cond.instanceMethod (mY mX9_clear) ∈ BIG := bw_747
theorem cv_X9_clear : CV mX9_clear := ⟨ci_X9_clear, bw_748⟩
theorem fg_RX11_107 : FG RX11 107 3 0 := ⟨RX3, TX3, 6, rfl, by decide, rfl, inB3, rfl, Or.inr ⟨_, nw_250⟩⟩
theorem cl_RX11_111 : CL RX11 111 mX5_find := Or.inl bw_750
theorem cm_X5_find : CM mX5_find 2 := ⟨bw_753, bw_4, ⟨by decide, by decide⟩, by decide +kernel, rfl⟩
theorem ci_X5_find : Cond.instanceMethod (mY mX5_find) ∈ BIG := bw_751
theorem cv_X5_find : CV mX5_find := ⟨ci_X5_find, bw_752⟩
theorem tk_RX11_117_121 : Cond.classLink RX11 117 (XN 4) ∈ BIG := bw_815
theorem ti_RX11_117_121 : Cond.initialized (XN 4) ∈ BIG := bw_22
theorem t4_RX11_117_121 : ∀ w ∈ vz_atS RX11 121 (XN 4) 13 cNSE NMS, w ∈ BIG ∨ w ∈ NW := goodA _ [14, 617, 626, 634, 637, 639, 618, 619, 36, 37, 620, 625, 635, 655, 607, 656, 609, 657, 611, 621, 623, 613, 651, 652, 654, 613, 826, 827, 828, 645, 599, 645, 646, 647, 648, 601, 648, 649, 650, 651, 603, 825, 816, 817, 818, 633, 819, 820, 821, 822, 653, 615, 823] (by decide +kernel) (by decide +kernel)
theorem t5_RX11_117_121 : ∀ w ∈ Cond.classLink RX11 117 (XN 4) :: Cond.initialized (XN 4) :: vz_atS RX11 121 (XN 4) 13 cNSE NMS, vx_ot w = true := by decide +kernel
theorem fg_RX11_122 : FG RX11 122 5 2 := ⟨RX5, TX5, 3, rfl, by decide, rfl, inB5, rfl, Or.inr ⟨_, nw_71⟩⟩
theorem cl_RX11_125 : CL RX11 125 mX11_needParty := Or.inl bw_869
theorem cm_X11_needParty : CM mX11_needParty 1 := ⟨bw_872, bw_1, ⟨by decide, by decide⟩, by decide +kernel, rfl⟩
theorem ci_X11_needParty : Cond.instanceMethod (mY mX11_needParty) ∈ BIG := bw_871
theorem cv_X11_needParty : CV mX11_needParty := ⟨ci_X11_needParty, bs_24⟩
theorem fg_RX11_129 : FG RX11 129 5 1 := ⟨RX5, TX5, 3, rfl, by decide, rfl, inB5, rfl, Or.inr ⟨_, nw_69⟩⟩
theorem ta_RX11_132_136 : ∀ w ∈ vx_atS RX11 136 (XN 3) NMS, w ∈ BIG ∨ w ∈ NW := goodA _ [14, 617, 626, 634, 637, 639, 618, 619, 36, 37, 620, 625, 635, 655, 607, 656, 609, 657, 611, 621, 623, 613, 651, 652, 654, 613, 777, 778, 779, 645, 599, 645, 646, 647, 648, 601, 648, 649, 650, 651, 603, 776, 767, 768, 769, 631, 770, 771, 772, 773, 653, 615, 774] (by decide +kernel) (by decide +kernel)
theorem tg_RX11_132_136 : ∀ w ∈ Cond.classLink RX11 132 (XN 3) :: Cond.initialized (XN 3) :: vx_atS RX11 136 (XN 3) NMS, vx_ot w = true := by decide +kernel
theorem tk_RX11_132_136 : Cond.classLink RX11 132 (XN 3) ∈ BIG := bw_766
theorem ti_RX11_132_136 : Cond.initialized (XN 3) ∈ BIG := bw_19
theorem fg_RX11_137 : FG RX11 137 5 0 := ⟨RX5, TX5, 3, rfl, by decide, rfl, inB5, rfl, Or.inr ⟨_, nw_67⟩⟩
theorem cl_RX11_140 : CL RX11 140 mX9_appendCodePoint := Or.inl bw_893
theorem cm_X9_appendCodePoint : CM mX9_appendCodePoint 1 := ⟨bw_896, bw_2, ⟨by decide, by decide⟩, by decide +kernel, rfl⟩
theorem ci_X9_appendCodePoint : Cond.instanceMethod (mY mX9_appendCodePoint) ∈ BIG := bw_894
theorem cv_X9_appendCodePoint : CV mX9_appendCodePoint := ⟨ci_X9_appendCodePoint, bw_895⟩
theorem cl_RX11_143 : CL RX11 143 mX5_add := Or.inl bw_758
theorem cm_X5_add : CM mX5_add 2 := ⟨bw_761, bw_4, ⟨by decide, by decide⟩, by decide +kernel, rfl⟩
theorem ci_X5_add : Cond.instanceMethod (mY mX5_add) ∈ BIG := bw_759
theorem cv_X5_add : CV mX5_add := ⟨ci_X5_add, bw_760⟩
theorem cl_RX11_146 : CL RX11 146 mX5_has := Or.inl bw_873
theorem cm_X5_has : CM mX5_has 1 := ⟨bw_876, bw_4, ⟨by decide, by decide⟩, by decide +kernel, rfl⟩
theorem ci_X5_has : Cond.instanceMethod (mY mX5_has) ∈ BIG := bw_874
theorem cv_X5_has : CV mX5_has := ⟨ci_X5_has, bw_875⟩
theorem fg_RX11_152 : FG RX11 152 0 0 := ⟨RX0, TX0, 3, rfl, by decide, rfl, inB0, rfl, Or.inr ⟨_, nw_87⟩⟩
theorem cl_RX11_157 : CL RX11 157 mX11_tryAdvance := Or.inl bw_905
theorem cm_X11_tryAdvance : CM mX11_tryAdvance 1 := ⟨bw_908, bw_1, ⟨by decide, by decide⟩, by decide +kernel, rfl⟩
theorem ci_X11_tryAdvance : Cond.instanceMethod (mY mX11_tryAdvance) ∈ BIG := bw_907
theorem cv_X11_tryAdvance : CV mX11_tryAdvance := ⟨ci_X11_tryAdvance, bs_25⟩
theorem cl_RX11_160 : CL RX11 160 mX11_needDay := Or.inl bw_916
theorem cm_X11_needDay : CM mX11_needDay 1 := ⟨bw_918, bw_1, ⟨by decide, by decide⟩, by decide +kernel, rfl⟩
theorem cs_X11_needDay : Cond.static (mY mX11_needDay) ∈ BIG := bw_917
theorem cl_RX11_163 : CL RX11 163 mX0_isCourt := Or.inl bw_928
theorem cl_RX11_166 : CL RX11 166 mX11_tryAddHoliday := Or.inl bw_936
theorem cm_X11_tryAddHoliday : CM mX11_tryAddHoliday 1 := ⟨bw_939, bw_1, ⟨by decide, by decide⟩, by decide +kernel, rfl⟩
theorem ci_X11_tryAddHoliday : Cond.instanceMethod (mY mX11_tryAddHoliday) ∈ BIG := bw_938
theorem cv_X11_tryAddHoliday : CV mX11_tryAddHoliday := ⟨ci_X11_tryAddHoliday, bs_26⟩
theorem cl_RX11_169 : CL RX11 169 mX11_tryRemoveHoliday := Or.inl bw_955
theorem cm_X11_tryRemoveHoliday : CM mX11_tryRemoveHoliday 1 := ⟨bw_958, bw_1, ⟨by decide, by decide⟩, by decide +kernel, rfl⟩
theorem ci_X11_tryRemoveHoliday : Cond.instanceMethod (mY mX11_tryRemoveHoliday) ∈ BIG := bw_957
theorem cv_X11_tryRemoveHoliday : CV mX11_tryRemoveHoliday := ⟨ci_X11_tryRemoveHoliday, bs_27⟩
theorem cl_RX11_172 : CL RX11 172 mX11_needRange := Or.inl bw_970
theorem cm_X11_needRange : CM mX11_needRange 2 := ⟨bw_972, bw_1, ⟨by decide, by decide⟩, by decide +kernel, rfl⟩
theorem cs_X11_needRange : Cond.static (mY mX11_needRange) ∈ BIG := bw_971
theorem cl_RX11_176 : CL RX11 176 mX0_countCourt := Or.inl bw_582
theorem cl_RX11_180 : CL RX11 180 mX4_countCourt := Or.inl bw_583
theorem cm_X4_countCourt : CM mX4_countCourt 2 := ⟨bw_586, bw_11, ⟨by decide, by decide⟩, by decide +kernel, rfl⟩
theorem ci_X4_countCourt : Cond.instanceMethod (mY mX4_countCourt) ∈ BIG := bw_584
theorem cv_X4_countCourt : CV mX4_countCourt := ⟨ci_X4_countCourt, bw_585⟩
theorem fp_RX11_152 : FP RX11 152 0 0 .int false := ⟨fg_RX11_152, RX0, TX0, 3, tyX0, rfl, tyX0_ok, nmX0, rfl, by decide +kernel⟩
theorem cl_RX11_181 : CL RX11 181 mX11_isDay := Or.inl bw_919
theorem cl_RX11_184 : CL RX11 184 mX0_isHoliday := Or.inl bw_940
theorem cm_X0_isHoliday : CM mX0_isHoliday 1 := ⟨bw_943, bw_5, ⟨by decide, by decide⟩, by decide +kernel, rfl⟩
theorem ci_X0_isHoliday : Cond.instanceMethod (mY mX0_isHoliday) ∈ BIG := bw_941
theorem cv_X0_isHoliday : CV mX0_isHoliday := ⟨ci_X0_isHoliday, bw_942⟩
theorem fg_RX11_187 : FG RX11 187 0 2 := ⟨RX0, TX0, 3, rfl, by decide, rfl, inB0, rfl, Or.inr ⟨_, nw_92⟩⟩
theorem cl_RX11_190 : CL RX11 190 mX0_insertHoliday := Or.inl bw_944
theorem cm_X0_insertHoliday : CM mX0_insertHoliday 1 := ⟨bw_947, bw_5, ⟨by decide, by decide⟩, by decide +kernel, rfl⟩
theorem ci_X0_insertHoliday : Cond.instanceMethod (mY mX0_insertHoliday) ∈ BIG := bw_945
theorem cv_X0_insertHoliday : CV mX0_insertHoliday := ⟨ci_X0_insertHoliday, bw_946⟩
theorem cl_RX11_193 : CL RX11 193 mX0_deleteHoliday := Or.inl bw_959
theorem cm_X0_deleteHoliday : CM mX0_deleteHoliday 1 := ⟨bw_962, bw_5, ⟨by decide, by decide⟩, by decide +kernel, rfl⟩
theorem ci_X0_deleteHoliday : Cond.instanceMethod (mY mX0_deleteHoliday) ∈ BIG := bw_960
theorem cv_X0_deleteHoliday : CV mX0_deleteHoliday := ⟨ci_X0_deleteHoliday, bw_961⟩
theorem ta_RX11_196_200 : ∀ w ∈ vx_atS RX11 200 (XN 2) NMS, w ∈ BIG ∨ w ∈ NW := goodA _ [14, 617, 626, 634, 637, 639, 618, 619, 36, 37, 620, 625, 635, 655, 607, 656, 609, 657, 611, 621, 623, 613, 651, 652, 654, 613, 793, 794, 795, 645, 599, 645, 646, 647, 648, 601, 648, 649, 650, 651, 603, 792, 783, 784, 785, 630, 786, 787, 788, 789, 653, 615, 790] (by decide +kernel) (by decide +kernel)
theorem tg_RX11_196_200 : ∀ w ∈ Cond.classLink RX11 196 (XN 2) :: Cond.initialized (XN 2) :: vx_atS RX11 200 (XN 2) NMS, vx_ot w = true := by decide +kernel
theorem tk_RX11_196_200 : Cond.classLink RX11 196 (XN 2) ∈ BIG := bw_782
theorem ti_RX11_196_200 : Cond.initialized (XN 2) ∈ BIG := bw_20
theorem cl_RX11_203 : CL RX11 203 mX11_trySetRule := Or.inl bw_988
theorem cm_X11_trySetRule : CM mX11_trySetRule 3 := ⟨bw_991, bw_1, ⟨by decide, by decide⟩, by decide +kernel, rfl⟩
theorem ci_X11_trySetRule : Cond.instanceMethod (mY mX11_trySetRule) ∈ BIG := bw_990
theorem cv_X11_trySetRule : CV mX11_trySetRule := ⟨ci_X11_trySetRule, bs_28⟩
theorem cl_RX11_207 : CL RX11 207 mX11_needRule := Or.inl bw_1002
theorem cm_X11_needRule : CM mX11_needRule 1 := ⟨bw_1004, bw_1, ⟨by decide, by decide⟩, by decide +kernel, rfl⟩
theorem cs_X11_needRule : Cond.static (mY mX11_needRule) ∈ BIG := bw_1003
theorem fg_RX11_210 : FG RX11 210 3 2 := ⟨RX3, TX3, 6, rfl, by decide, rfl, inB3, rfl, Or.inr ⟨_, nw_254⟩⟩
theorem fg_RX11_214 : FG RX11 214 7 0 := ⟨RX7, TX7, 3, rfl, by decide, rfl, inB7, rfl, Or.inr ⟨_, nw_108⟩⟩
theorem fg_RX11_217 : FG RX11 217 7 1 := ⟨RX7, TX7, 3, rfl, by decide, rfl, inB7, rfl, Or.inr ⟨_, nw_111⟩⟩
theorem cl_RX11_221 : CL RX11 221 mX11_trySetServiceDays := Or.inl bw_1020
theorem cm_X11_trySetServiceDays : CM mX11_trySetServiceDays 2 := ⟨bw_1023, bw_1, ⟨by decide, by decide⟩, by decide +kernel, rfl⟩
theorem ci_X11_trySetServiceDays : Cond.instanceMethod (mY mX11_trySetServiceDays) ∈ BIG := bw_1022
theorem cv_X11_trySetServiceDays : CV mX11_trySetServiceDays := ⟨ci_X11_trySetServiceDays, bs_29⟩
theorem cl_RX11_225 : CL RX11 225 mX7_placeOfWay := Or.inl bw_1024
theorem fg_RX11_231 : FG RX11 231 7 2 := ⟨RX7, TX7, 3, rfl, by decide, rfl, inB7, rfl, Or.inr ⟨_, nw_113⟩⟩
theorem cl_RX11_234 : CL RX11 234 mX10_countBack := Or.inl bw_1042
theorem cm_X10_countBack : CM mX10_countBack 3 := ⟨bw_1045, bw_10, ⟨by decide, by decide⟩, by decide +kernel, rfl⟩
theorem ci_X10_countBack : Cond.instanceMethod (mY mX10_countBack) ∈ BIG := bw_1043
theorem cv_X10_countBack : CV mX10_countBack := ⟨ci_X10_countBack, bw_1044⟩
theorem cl_RX11_237 : CL RX11 237 mX11_needNotBeforeDayZero := Or.inl bw_1050
theorem cm_X11_needNotBeforeDayZero : CM mX11_needNotBeforeDayZero 1 := ⟨bw_1052, bw_1, ⟨by decide, by decide⟩, by decide +kernel, rfl⟩
theorem cs_X11_needNotBeforeDayZero : Cond.static (mY mX11_needNotBeforeDayZero) ∈ BIG := bw_1051
theorem cl_RX11_240 : CL RX11 240 mX4_countBack := Or.inl bw_1061
theorem cm_X4_countBack : CM mX4_countBack 3 := ⟨bw_1064, bw_11, ⟨by decide, by decide⟩, by decide +kernel, rfl⟩
theorem ci_X4_countBack : Cond.instanceMethod (mY mX4_countBack) ∈ BIG := bw_1062
theorem cv_X4_countBack : CV mX4_countBack := ⟨ci_X4_countBack, bw_1063⟩
theorem cl_RX11_241 : CL RX11 241 mX11_isRule := Or.inl bw_992
theorem cm_X11_isRule : CM mX11_isRule 1 := ⟨bw_994, bw_1, ⟨by decide, by decide⟩, by decide +kernel, rfl⟩
theorem cs_X11_isRule : Cond.static (mY mX11_isRule) ∈ BIG := bw_993
theorem cl_RX11_248 : CL RX11 248 mX11_tryServe := Or.inl bw_1072
theorem cm_X11_tryServe : CM mX11_tryServe 3 := ⟨bw_1075, bw_1, ⟨by decide, by decide⟩, by decide +kernel, rfl⟩
theorem ci_X11_tryServe : Cond.instanceMethod (mY mX11_tryServe) ∈ BIG := bw_1074
theorem cv_X11_tryServe : CV mX11_tryServe := ⟨ci_X11_tryServe, bs_31⟩
theorem fg_RX11_252 : FG RX11 252 3 3 := ⟨RX3, TX3, 6, rfl, by decide, rfl, inB3, rfl, Or.inr ⟨_, nw_256⟩⟩
theorem fg_RX11_256 : FG RX11 256 2 11 := ⟨RX2, TX2, 12, rfl, by decide, rfl, inB2, rfl, Or.inr ⟨_, nw_155⟩⟩
theorem cl_RX11_259 : CL RX11 259 mX11_needDeadline := Or.inl bw_1092
theorem cm_X11_needDeadline : CM mX11_needDeadline 1 := ⟨bw_1095, bw_1, ⟨by decide, by decide⟩, by decide +kernel, rfl⟩
theorem ci_X11_needDeadline : Cond.instanceMethod (mY mX11_needDeadline) ∈ BIG := bw_1094
theorem cv_X11_needDeadline : CV mX11_needDeadline := ⟨ci_X11_needDeadline, bs_32⟩
theorem cl_RX11_262 : CL RX11 262 mX10_endOf := Or.inl bw_417
theorem cm_X10_endOf : CM mX10_endOf 2 := ⟨bw_420, bw_10, ⟨by decide, by decide⟩, by decide +kernel, rfl⟩
theorem ci_X10_endOf : Cond.instanceMethod (mY mX10_endOf) ∈ BIG := bw_418
theorem cv_X10_endOf : CV mX10_endOf := ⟨ci_X10_endOf, bw_419⟩
theorem cl_RX11_266 : CL RX11 266 mX11_needSomeDay := Or.inl bw_1101
theorem cm_X11_needSomeDay : CM mX11_needSomeDay 1 := ⟨bw_1103, bw_1, ⟨by decide, by decide⟩, by decide +kernel, rfl⟩
theorem cs_X11_needSomeDay : Cond.static (mY mX11_needSomeDay) ∈ BIG := bw_1102
theorem cl_RX11_269 : CL RX11 269 mX4_endOf := Or.inl bw_507
theorem cm_X4_endOf : CM mX4_endOf 2 := ⟨bw_510, bw_11, ⟨by decide, by decide⟩, by decide +kernel, rfl⟩
theorem ci_X4_endOf : Cond.instanceMethod (mY mX4_endOf) ∈ BIG := bw_508
theorem cv_X4_endOf : CV mX4_endOf := ⟨ci_X4_endOf, bw_509⟩
theorem cl_RX11_270 : CL RX11 270 mX2_sumOfParts := Or.inl bw_1119
theorem cm_X2_sumOfParts : CM mX2_sumOfParts 1 := ⟨bw_1122, bw_7, ⟨by decide, by decide⟩, by decide +kernel, rfl⟩
theorem ci_X2_sumOfParts : Cond.instanceMethod (mY mX2_sumOfParts) ∈ BIG := bw_1120
theorem cv_X2_sumOfParts : CV mX2_sumOfParts := ⟨ci_X2_sumOfParts, bw_1121⟩
theorem cl_RX11_273 : CL RX11 273 mX10_countedUntil := Or.inl bw_543
theorem cm_X10_countedUntil : CM mX10_countedUntil 3 := ⟨bw_546, bw_10, ⟨by decide, by decide⟩, by decide +kernel, rfl⟩
theorem ci_X10_countedUntil : Cond.instanceMethod (mY mX10_countedUntil) ∈ BIG := bw_544
theorem cv_X10_countedUntil : CV mX10_countedUntil := ⟨ci_X10_countedUntil, bw_545⟩
theorem cl_RX11_277 : CL RX11 277 mX4_countedUntil := Or.inl bw_551
theorem cm_X4_countedUntil : CM mX4_countedUntil 3 := ⟨bw_554, bw_11, ⟨by decide, by decide⟩, by decide +kernel, rfl⟩
theorem ci_X4_countedUntil : Cond.instanceMethod (mY mX4_countedUntil) ∈ BIG := bw_552
theorem cv_X4_countedUntil : CV mX4_countedUntil := ⟨ci_X4_countedUntil, bw_553⟩
theorem cl_RX11_278 : CL RX11 278 mX11_tryExtendByConsent := Or.inl bw_1139
theorem cm_X11_tryExtendByConsent : CM mX11_tryExtendByConsent 2 := ⟨bw_1142, bw_1, ⟨by decide, by decide⟩, by decide +kernel, rfl⟩
theorem ci_X11_tryExtendByConsent : Cond.instanceMethod (mY mX11_tryExtendByConsent) ∈ BIG := bw_1141
theorem cv_X11_tryExtendByConsent : CV mX11_tryExtendByConsent := ⟨ci_X11_tryExtendByConsent, bs_33⟩
theorem cl_RX11_281 : CL RX11 281 mX11_tryExtendByOrder := Or.inl bw_1154
theorem cm_X11_tryExtendByOrder : CM mX11_tryExtendByOrder 2 := ⟨bw_1157, bw_1, ⟨by decide, by decide⟩, by decide +kernel, rfl⟩
theorem ci_X11_tryExtendByOrder : Cond.instanceMethod (mY mX11_tryExtendByOrder) ∈ BIG := bw_1156
theorem cv_X11_tryExtendByOrder : CV mX11_tryExtendByOrder := ⟨ci_X11_tryExtendByOrder, bs_34⟩
theorem fg_RX11_284 : FG RX11 284 2 9 := ⟨RX2, TX2, 12, rfl, by decide, rfl, inB2, rfl, Or.inr ⟨_, nw_150⟩⟩
theorem cl_RX11_287 : CL RX11 287 mX11_tryFile := Or.inl bw_1172
theorem cm_X11_tryFile : CM mX11_tryFile 1 := ⟨bw_1175, bw_1, ⟨by decide, by decide⟩, by decide +kernel, rfl⟩
theorem ci_X11_tryFile : Cond.instanceMethod (mY mX11_tryFile) ∈ BIG := bw_1174
theorem cv_X11_tryFile : CV mX11_tryFile := ⟨ci_X11_tryFile, bs_35⟩
theorem cl_RX11_290 : CL RX11 290 mX11_tryStrike := Or.inl bw_1183
theorem cm_X11_tryStrike : CM mX11_tryStrike 1 := ⟨bw_1186, bw_1, ⟨by decide, by decide⟩, by decide +kernel, rfl⟩
theorem ci_X11_tryStrike : Cond.instanceMethod (mY mX11_tryStrike) ∈ BIG := bw_1185
theorem cv_X11_tryStrike : CV mX11_tryStrike := ⟨ci_X11_tryStrike, bs_36⟩
theorem fg_RX11_293 : FG RX11 293 2 10 := ⟨RX2, TX2, 12, rfl, by decide, rfl, inB2, rfl, Or.inr ⟨_, nw_152⟩⟩
theorem cl_RX11_297 : CL RX11 297 mX11_findOpenDues := Or.inl bw_409
theorem cm_X11_findOpenDues : CM mX11_findOpenDues 0 := ⟨bw_412, bw_1, ⟨by decide, by decide⟩, by decide +kernel, rfl⟩
theorem ci_X11_findOpenDues : Cond.instanceMethod (mY mX11_findOpenDues) ∈ BIG := bw_411
theorem cv_X11_findOpenDues : CV mX11_findOpenDues := ⟨ci_X11_findOpenDues, bs_0⟩
theorem cl_RX11_300 : CL RX11 300 mX2_isOpen := Or.inl bw_413
theorem cl_RX11_303 : CL RX11 303 mX11_countOpenAhead := Or.inl bw_1206
theorem cm_X11_countOpenAhead : CM mX11_countOpenAhead 1 := ⟨bw_1209, bw_1, ⟨by decide, by decide⟩, by decide +kernel, rfl⟩
theorem ci_X11_countOpenAhead : Cond.instanceMethod (mY mX11_countOpenAhead) ∈ BIG := bw_1208
theorem cv_X11_countOpenAhead : CV mX11_countOpenAhead := ⟨ci_X11_countOpenAhead, bs_37⟩
theorem cl_RX11_308 : CL RX11 308 mX11_countOpenDueOn := Or.inl bw_1218
theorem cm_X11_countOpenDueOn : CM mX11_countOpenDueOn 1 := ⟨bw_1221, bw_1, ⟨by decide, by decide⟩, by decide +kernel, rfl⟩
theorem ci_X11_countOpenDueOn : Cond.instanceMethod (mY mX11_countOpenDueOn) ∈ BIG := bw_1220
theorem cv_X11_countOpenDueOn : CV mX11_countOpenDueOn := ⟨ci_X11_countOpenDueOn, bs_38⟩
theorem ta_RX11_311_315 : ∀ w ∈ vx_atS RX11 315 (XN 6) NMS, w ∈ BIG ∨ w ∈ NW := goodA _ [14, 617, 626, 634, 637, 639, 618, 619, 36, 37, 620, 625, 635, 655, 607, 656, 609, 657, 611, 621, 623, 613, 651, 652, 654, 613, 1227, 1228, 1229, 645, 599, 645, 646, 647, 648, 601, 648, 649, 650, 651, 603, 1245, 1226, 1237, 1238, 628, 1232, 1233, 1235, 1231, 653, 615, 1230] (by decide +kernel) (by decide +kernel)
theorem tg_RX11_311_315 : ∀ w ∈ Cond.classLink RX11 311 (XN 6) :: Cond.initialized (XN 6) :: vx_atS RX11 315 (XN 6) NMS, vx_ot w = true := by decide +kernel
theorem tk_RX11_311_315 : Cond.classLink RX11 311 (XN 6) ∈ BIG := bw_1243
theorem ti_RX11_311_315 : Cond.initialized (XN 6) ∈ BIG := bw_26
theorem cl_RX11_316 : CL RX11 316 mX2_add := Or.inl bw_1076
theorem cl_RX11_319 : CL RX11 319 mX2_addPart := Or.inl bw_1084
theorem cl_RX11_322 : CL RX11 322 mX2_has := Or.inl bw_1096
theorem cm_X2_has : CM mX2_has 1 := ⟨bw_1099, bw_7, ⟨by decide, by decide⟩, by decide +kernel, rfl⟩
theorem ci_X2_has : Cond.instanceMethod (mY mX2_has) ∈ BIG := bw_1097
theorem cv_X2_has : CV mX2_has := ⟨ci_X2_has, bw_1098⟩
theorem fg_RX11_323 : FG RX11 323 2 6 := ⟨RX2, TX2, 12, rfl, by decide, rfl, inB2, rfl, Or.inr ⟨_, nw_144⟩⟩
theorem fg_RX11_326 : FG RX11 326 2 7 := ⟨RX2, TX2, 12, rfl, by decide, rfl, inB2, rfl, Or.inr ⟨_, nw_146⟩⟩
theorem cl_RX11_329 : CL RX11 329 mX2_grant := Or.inl bw_1143
theorem cm_X2_grant : CM mX2_grant 2 := ⟨bw_1146, bw_7, ⟨by decide, by decide⟩, by decide +kernel, rfl⟩
theorem ci_X2_grant : Cond.instanceMethod (mY mX2_grant) ∈ BIG := bw_1144
theorem cv_X2_grant : CV mX2_grant := ⟨ci_X2_grant, bw_1145⟩
theorem fg_RX11_332 : FG RX11 332 2 8 := ⟨RX2, TX2, 12, rfl, by decide, rfl, inB2, rfl, Or.inr ⟨_, nw_148⟩⟩
theorem cl_RX11_335 : CL RX11 335 mX2_countOpen := Or.inl bw_1187
theorem cm_X2_countOpen : CM mX2_countOpen 0 := ⟨bw_1190, bw_7, ⟨by decide, by decide⟩, by decide +kernel, rfl⟩
theorem ci_X2_countOpen : Cond.instanceMethod (mY mX2_countOpen) ∈ BIG := bw_1188
theorem cv_X2_countOpen : CV mX2_countOpen := ⟨ci_X2_countOpen, bw_1189⟩
theorem cl_RX11_342 : CL RX11 342 mX11_tryStayParty := Or.inl bw_1253
theorem cm_X11_tryStayParty : CM mX11_tryStayParty 2 := ⟨bw_1256, bw_1, ⟨by decide, by decide⟩, by decide +kernel, rfl⟩
theorem ci_X11_tryStayParty : Cond.instanceMethod (mY mX11_tryStayParty) ∈ BIG := bw_1255
theorem cv_X11_tryStayParty : CV mX11_tryStayParty := ⟨ci_X11_tryStayParty, bs_39⟩
theorem cl_RX11_345 : CL RX11 345 mX11_tryStay := Or.inl bw_1257
theorem cm_X11_tryStay : CM mX11_tryStay 2 := ⟨bw_1260, bw_1, ⟨by decide, by decide⟩, by decide +kernel, rfl⟩
theorem ci_X11_tryStay : Cond.instanceMethod (mY mX11_tryStay) ∈ BIG := bw_1259
theorem cv_X11_tryStay : CV mX11_tryStay := ⟨ci_X11_tryStay, bs_40⟩
theorem cl_RX11_348 : CL RX11 348 mX11_tryLift := Or.inl bw_1279
theorem cm_X11_tryLift : CM mX11_tryLift 1 := ⟨bw_1282, bw_1, ⟨by decide, by decide⟩, by decide +kernel, rfl⟩
theorem ci_X11_tryLift : Cond.instanceMethod (mY mX11_tryLift) ∈ BIG := bw_1281
theorem cv_X11_tryLift : CV mX11_tryLift := ⟨ci_X11_tryLift, bs_41⟩
theorem cl_RX11_351 : CL RX11 351 mX8_countInForce := Or.inl bw_491
theorem cm_X8_countInForce : CM mX8_countInForce 0 := ⟨bw_494, bw_8, ⟨by decide, by decide⟩, by decide +kernel, rfl⟩
theorem ci_X8_countInForce : Cond.instanceMethod (mY mX8_countInForce) ∈ BIG := bw_492
theorem cv_X8_countInForce : CV mX8_countInForce := ⟨ci_X8_countInForce, bw_493⟩
theorem cl_RX11_356 : CL RX11 356 mX10_countStopped := Or.inl bw_555
theorem cm_X10_countStopped : CM mX10_countStopped 4 := ⟨bw_558, bw_10, ⟨by decide, by decide⟩, by decide +kernel, rfl⟩
theorem ci_X10_countStopped : Cond.instanceMethod (mY mX10_countStopped) ∈ BIG := bw_556
theorem cv_X10_countStopped : CV mX10_countStopped := ⟨ci_X10_countStopped, bw_557⟩
theorem cl_RX11_360 : CL RX11 360 mX4_countStopped := Or.inl bw_559
theorem cm_X4_countStopped : CM mX4_countStopped 4 := ⟨bw_562, bw_11, ⟨by decide, by decide⟩, by decide +kernel, rfl⟩
theorem ci_X4_countStopped : Cond.instanceMethod (mY mX4_countStopped) ∈ BIG := bw_560
theorem cv_X4_countStopped : CV mX4_countStopped := ⟨ci_X4_countStopped, bw_561⟩
theorem fg_RX11_361 : FG RX11 361 8 4 := ⟨RX8, TX8, 5, rfl, by decide, rfl, inB8, rfl, Or.inr ⟨_, nw_200⟩⟩
theorem cl_RX11_362 : CL RX11 362 mX8_add := Or.inl bw_1261
theorem cm_X8_add : CM mX8_add 3 := ⟨bw_1264, bw_8, ⟨by decide, by decide⟩, by decide +kernel, rfl⟩
theorem ci_X8_add : Cond.instanceMethod (mY mX8_add) ∈ BIG := bw_1262
theorem cv_X8_add : CV mX8_add := ⟨ci_X8_add, bw_1263⟩
theorem cl_RX11_365 : CL RX11 365 mX8_has := Or.inl bw_1283
theorem cm_X8_has : CM mX8_has 1 := ⟨bw_1286, bw_8, ⟨by decide, by decide⟩, by decide +kernel, rfl⟩
theorem ci_X8_has : Cond.instanceMethod (mY mX8_has) ∈ BIG := bw_1284
theorem cv_X8_has : CV mX8_has := ⟨ci_X8_has, bw_1285⟩
theorem cl_RX11_366 : CL RX11 366 mX8_isInForce := Or.inl bw_1287
theorem fg_RX11_369 : FG RX11 369 8 3 := ⟨RX8, TX8, 5, rfl, by decide, rfl, inB8, rfl, Or.inr ⟨_, nw_196⟩⟩
theorem fg_RX11_372 : FG RX11 372 8 2 := ⟨RX8, TX8, 5, rfl, by decide, rfl, inB8, rfl, Or.inr ⟨_, nw_192⟩⟩
theorem cl_RX11_375 : CL RX11 375 mX11_tryAddOccurrence := Or.inl bw_1316
theorem cm_X11_tryAddOccurrence : CM mX11_tryAddOccurrence 2 := ⟨bw_1319, bw_1, ⟨by decide, by decide⟩, by decide +kernel, rfl⟩
theorem ci_X11_tryAddOccurrence : Cond.instanceMethod (mY mX11_tryAddOccurrence) ∈ BIG := bw_1318
theorem cv_X11_tryAddOccurrence : CV mX11_tryAddOccurrence := ⟨ci_X11_tryAddOccurrence, bs_42⟩
theorem cl_RX11_378 : CL RX11 378 mX11_tryLinkOccurrences := Or.inl bw_1332
theorem cm_X11_tryLinkOccurrences : CM mX11_tryLinkOccurrences 2 := ⟨bw_1335, bw_1, ⟨by decide, by decide⟩, by decide +kernel, rfl⟩
theorem ci_X11_tryLinkOccurrences : Cond.instanceMethod (mY mX11_tryLinkOccurrences) ∈ BIG := bw_1334
theorem cv_X11_tryLinkOccurrences : CV mX11_tryLinkOccurrences := ⟨ci_X11_tryLinkOccurrences, bs_43⟩
theorem cl_RX11_381 : CL RX11 381 mX11_needOccurrence := Or.inl bw_1357
theorem cm_X11_needOccurrence : CM mX11_needOccurrence 1 := ⟨bw_1360, bw_1, ⟨by decide, by decide⟩, by decide +kernel, rfl⟩
theorem ci_X11_needOccurrence : Cond.instanceMethod (mY mX11_needOccurrence) ∈ BIG := bw_1359
theorem cv_X11_needOccurrence : CV mX11_needOccurrence := ⟨ci_X11_needOccurrence, bs_44⟩
theorem fg_RX11_384 : FG RX11 384 3 5 := ⟨RX3, TX3, 6, rfl, by decide, rfl, inB3, rfl, Or.inr ⟨_, nw_260⟩⟩
theorem cl_RX11_388 : CL RX11 388 mX1_inSameGroup := Or.inl bw_567
theorem cl_RX11_394 : CL RX11 394 mX1_isReached := Or.inl bw_571
theorem cm_X1_isReached : CM mX1_isReached 2 := ⟨bw_574, bw_9, ⟨by decide, by decide⟩, by decide +kernel, rfl⟩
theorem ci_X1_isReached : Cond.instanceMethod (mY mX1_isReached) ∈ BIG := bw_572
theorem cv_X1_isReached : CV mX1_isReached := ⟨ci_X1_isReached, bw_573⟩
theorem fg_RX11_397 : FG RX11 397 1 0 := ⟨RX1, TX1, 8, rfl, by decide, rfl, inB1, rfl, Or.inr ⟨_, nw_221⟩⟩
theorem cl_RX11_400 : CL RX11 400 mX11_tryFileClaim := Or.inl bw_1383
theorem cm_X11_tryFileClaim : CM mX11_tryFileClaim 2 := ⟨bw_1386, bw_1, ⟨by decide, by decide⟩, by decide +kernel, rfl⟩
theorem ci_X11_tryFileClaim : Cond.instanceMethod (mY mX11_tryFileClaim) ∈ BIG := bw_1385
theorem cv_X11_tryFileClaim : CV mX11_tryFileClaim := ⟨ci_X11_tryFileClaim, bs_45⟩
theorem cl_RX11_403 : CL RX11 403 mX11_tryAmendClaim := Or.inl bw_1398
theorem cm_X11_tryAmendClaim : CM mX11_tryAmendClaim 2 := ⟨bw_1401, bw_1, ⟨by decide, by decide⟩, by decide +kernel, rfl⟩
theorem ci_X11_tryAmendClaim : Cond.instanceMethod (mY mX11_tryAmendClaim) ∈ BIG := bw_1400
theorem cv_X11_tryAmendClaim : CV mX11_tryAmendClaim := ⟨ci_X11_tryAmendClaim, bs_46⟩
theorem cl_RX11_406 : CL RX11 406 mX11_needClaim := Or.inl bw_1413
theorem cm_X11_needClaim : CM mX11_needClaim 1 := ⟨bw_1416, bw_1, ⟨by decide, by decide⟩, by decide +kernel, rfl⟩
theorem ci_X11_needClaim : Cond.instanceMethod (mY mX11_needClaim) ∈ BIG := bw_1415
theorem cv_X11_needClaim : CV mX11_needClaim := ⟨ci_X11_needClaim, bs_47⟩
theorem cl_RX11_409 : CL RX11 409 mX1_effectiveDayOf := Or.inl bw_1418
theorem cm_X1_effectiveDayOf : CM mX1_effectiveDayOf 1 := ⟨bw_1421, bw_9, ⟨by decide, by decide⟩, by decide +kernel, rfl⟩
theorem ci_X1_effectiveDayOf : Cond.instanceMethod (mY mX1_effectiveDayOf) ∈ BIG := bw_1419
theorem cv_X1_effectiveDayOf : CV mX1_effectiveDayOf := ⟨ci_X1_effectiveDayOf, bw_1420⟩
theorem cl_RX11_412 : CL RX11 412 mX11_meetsBar := Or.inl bw_1434
theorem cm_X11_meetsBar : CM mX11_meetsBar 1 := ⟨bw_1437, bw_1, ⟨by decide, by decide⟩, by decide +kernel, rfl⟩
theorem ci_X11_meetsBar : Cond.instanceMethod (mY mX11_meetsBar) ∈ BIG := bw_1436
theorem cv_X11_meetsBar : CV mX11_meetsBar := ⟨ci_X11_meetsBar, bs_49⟩
theorem fg_RX11_415 : FG RX11 415 1 7 := ⟨RX1, TX1, 8, rfl, by decide, rfl, inB1, rfl, Or.inr ⟨_, nw_231⟩⟩
theorem fg_RX11_416 : FG RX11 416 1 3 := ⟨RX1, TX1, 8, rfl, by decide, rfl, inB1, rfl, Or.inr ⟨_, nw_225⟩⟩
theorem cl_RX11_418 : CL RX11 418 mX1_keepOccurrence := Or.inl bw_1320
theorem cm_X1_keepOccurrence : CM mX1_keepOccurrence 3 := ⟨bw_1323, bw_9, ⟨by decide, by decide⟩, by decide +kernel, rfl⟩
theorem ci_X1_keepOccurrence : Cond.instanceMethod (mY mX1_keepOccurrence) ∈ BIG := bw_1321
theorem cv_X1_keepOccurrence : CV mX1_keepOccurrence := ⟨ci_X1_keepOccurrence, bw_1322⟩
theorem cl_RX11_422 : CL RX11 422 mX1_areLinked := Or.inl bw_1336
theorem cm_X1_areLinked : CM mX1_areLinked 2 := ⟨bw_1339, bw_9, ⟨by decide, by decide⟩, by decide +kernel, rfl⟩
theorem ci_X1_areLinked : Cond.instanceMethod (mY mX1_areLinked) ∈ BIG := bw_1337
theorem cv_X1_areLinked : CV mX1_areLinked := ⟨ci_X1_areLinked, bw_1338⟩
theorem cl_RX11_425 : CL RX11 425 mX1_link := Or.inl bw_1340
theorem cm_X1_link : CM mX1_link 2 := ⟨bw_1343, bw_9, ⟨by decide, by decide⟩, by decide +kernel, rfl⟩
theorem ci_X1_link : Cond.instanceMethod (mY mX1_link) ∈ BIG := bw_1341
theorem cv_X1_link : CV mX1_link := ⟨ci_X1_link, bw_1342⟩
theorem cl_RX11_428 : CL RX11 428 mX1_countGroups := Or.inl bw_1346
theorem cm_X1_countGroups : CM mX1_countGroups 0 := ⟨bw_1349, bw_9, ⟨by decide, by decide⟩, by decide +kernel, rfl⟩
theorem ci_X1_countGroups : Cond.instanceMethod (mY mX1_countGroups) ∈ BIG := bw_1347
theorem cv_X1_countGroups : CV mX1_countGroups := ⟨ci_X1_countGroups, bw_1348⟩
theorem cl_RX11_431 : CL RX11 431 mX1_addClaim := Or.inl bw_1387
theorem cm_X1_addClaim : CM mX1_addClaim 4 := ⟨bw_1390, bw_9, ⟨by decide, by decide⟩, by decide +kernel, rfl⟩
theorem ci_X1_addClaim : Cond.instanceMethod (mY mX1_addClaim) ∈ BIG := bw_1388
theorem cv_X1_addClaim : CV mX1_addClaim := ⟨ci_X1_addClaim, bw_1389⟩
theorem cl_RX11_435 : CL RX11 435 mX1_has := Or.inl bw_1402
theorem cm_X1_has : CM mX1_has 1 := ⟨bw_1405, bw_9, ⟨by decide, by decide⟩, by decide +kernel, rfl⟩
theorem ci_X1_has : Cond.instanceMethod (mY mX1_has) ∈ BIG := bw_1403
theorem cv_X1_has : CV mX1_has := ⟨ci_X1_has, bw_1404⟩
theorem fg_RX11_440 : FG RX11 440 1 4 := ⟨RX1, TX1, 8, rfl, by decide, rfl, inB1, rfl, Or.inr ⟨_, nw_227⟩⟩
theorem cl_RX11_443 : CL RX11 443 mX9_appendNumber := Or.inl bw_1452
theorem cm_X9_appendNumber : CM mX9_appendNumber 1 := ⟨bw_1455, bw_2, ⟨by decide, by decide⟩, by decide +kernel, rfl⟩
theorem ci_X9_appendNumber : Cond.instanceMethod (mY mX9_appendNumber) ∈ BIG := bw_1453
theorem cv_X9_appendNumber : CV mX9_appendNumber := ⟨ci_X9_appendNumber, bw_1454⟩
theorem fg_RX11_446 : FG RX11 446 2 0 := ⟨RX2, TX2, 12, rfl, by decide, rfl, inB2, rfl, Or.inr ⟨_, nw_131⟩⟩
theorem cl_RX11_449 : CL RX11 449 mX9_signAt := Or.inl bw_1464
theorem cl_RX11_453 : CL RX11 453 mX11_deadlineAgrees := Or.inl bw_503
theorem cm_X11_deadlineAgrees : CM mX11_deadlineAgrees 1 := ⟨bw_506, bw_1, ⟨by decide, by decide⟩, by decide +kernel, rfl⟩
theorem ci_X11_deadlineAgrees : Cond.instanceMethod (mY mX11_deadlineAgrees) ∈ BIG := bw_505
theorem cv_X11_deadlineAgrees : CV mX11_deadlineAgrees := ⟨ci_X11_deadlineAgrees, bs_11⟩
theorem cl_RX11_456 : CL RX11 456 mX11_conductAgrees := Or.inl bw_563
theorem cm_X11_conductAgrees : CM mX11_conductAgrees 0 := ⟨bw_566, bw_1, ⟨by decide, by decide⟩, by decide +kernel, rfl⟩
theorem ci_X11_conductAgrees : Cond.instanceMethod (mY mX11_conductAgrees) ∈ BIG := bw_565
theorem cv_X11_conductAgrees : CV mX11_conductAgrees := ⟨ci_X11_conductAgrees, bs_17⟩
theorem cl_RX11_460 : CL RX11 460 mX11_courtDaysAgree := Or.inl bw_578
theorem cm_X11_courtDaysAgree : CM mX11_courtDaysAgree 0 := ⟨bw_581, bw_1, ⟨by decide, by decide⟩, by decide +kernel, rfl⟩
theorem ci_X11_courtDaysAgree : Cond.instanceMethod (mY mX11_courtDaysAgree) ∈ BIG := bw_580
theorem cv_X11_courtDaysAgree : CV mX11_courtDaysAgree := ⟨ci_X11_courtDaysAgree, bs_18⟩
theorem cl_RX11_463 : CL RX11 463 mX6_parse := Or.inl bw_1472
theorem cm_X6_parse : CM mX6_parse 1 := ⟨bw_1475, bw_12, ⟨by decide, by decide⟩, by decide +kernel, rfl⟩
theorem ci_X6_parse : Cond.instanceMethod (mY mX6_parse) ∈ BIG := bw_1473
theorem cv_X6_parse : CV mX6_parse := ⟨ci_X6_parse, bw_1474⟩
theorem fg_RX11_469 : FG RX11 469 6 4 := ⟨RX6, TX6, 6, rfl, by decide, rfl, inB6, rfl, Or.inr ⟨_, nw_338⟩⟩
theorem cl_RX11_470 : CL RX11 470 mX11_execute := Or.inl bw_1582
theorem cm_X11_execute : CM mX11_execute 1 := ⟨bw_1585, bw_1, ⟨by decide, by decide⟩, by decide +kernel, rfl⟩
theorem ci_X11_execute : Cond.instanceMethod (mY mX11_execute) ∈ BIG := bw_1584
theorem cv_X11_execute : CV mX11_execute := ⟨ci_X11_execute, bs_61⟩
theorem cl_RX11_473 : CL RX11 473 mX11_takeBack := Or.inl bw_1586
theorem cm_X11_takeBack : CM mX11_takeBack 0 := ⟨bw_1589, bw_1, ⟨by decide, by decide⟩, by decide +kernel, rfl⟩
theorem ci_X11_takeBack : Cond.instanceMethod (mY mX11_takeBack) ∈ BIG := bw_1588
theorem cv_X11_takeBack : CV mX11_takeBack := ⟨ci_X11_takeBack, bs_62⟩
theorem ta_RX11_476_480 : ∀ w ∈ vx_atS RX11 480 (XN 5) NMS, w ∈ BIG ∨ w ∈ NW := goodA _ [14, 617, 626, 634, 637, 639, 618, 619, 36, 37, 620, 625, 635, 655, 607, 656, 609, 657, 611, 621, 623, 613, 651, 652, 654, 613, 810, 811, 812, 645, 599, 645, 646, 647, 648, 601, 648, 649, 650, 651, 603, 809, 800, 801, 802, 632, 803, 804, 805, 806, 653, 615, 807] (by decide +kernel) (by decide +kernel)
theorem tg_RX11_476_480 : ∀ w ∈ Cond.classLink RX11 476 (XN 5) :: Cond.initialized (XN 5) :: vx_atS RX11 480 (XN 5) NMS, vx_ot w = true := by decide +kernel
theorem tk_RX11_476_480 : Cond.classLink RX11 476 (XN 5) ∈ BIG := bw_799
theorem ti_RX11_476_480 : Cond.initialized (XN 5) ∈ BIG := bw_21
theorem fg_RX11_485 : FG RX11 485 11 6 := ⟨RX11, TX11, 13, rfl, by decide, rfl, inB11, rfl, Or.inl bw_359⟩
theorem fg_RX11_490 : FG RX11 490 11 5 := ⟨RX11, TX11, 13, rfl, by decide, rfl, inB11, rfl, Or.inl bw_358⟩
theorem fp_RX11_490 : FP RX11 490 11 5 .int false := ⟨fg_RX11_490, RX11, TX11, 13, tyX11, rfl, tyX11_ok, nmX11, rfl, by decide +kernel⟩
theorem fp_RX11_485 : FP RX11 485 11 6 .int false := ⟨fg_RX11_485, RX11, TX11, 13, tyX11, rfl, tyX11_ok, nmX11, rfl, by decide +kernel⟩
theorem fg_RX11_493 : FG RX11 493 6 1 := ⟨RX6, TX6, 6, rfl, by decide, rfl, inB6, rfl, Or.inr ⟨_, nw_332⟩⟩
theorem fg_RX11_496 : FG RX11 496 6 2 := ⟨RX6, TX6, 6, rfl, by decide, rfl, inB6, rfl, Or.inr ⟨_, nw_334⟩⟩
theorem fg_RX11_499 : FG RX11 499 6 0 := ⟨RX6, TX6, 6, rfl, by decide, rfl, inB6, rfl, Or.inr ⟨_, nw_330⟩⟩
theorem fg_RX11_502 : FG RX11 502 6 3 := ⟨RX6, TX6, 6, rfl, by decide, rfl, inB6, rfl, Or.inr ⟨_, nw_336⟩⟩
theorem cl_RX11_505 : CL RX11 505 mX3_copy := Or.inl bw_683
theorem cm_X3_copy : CM mX3_copy 1 := ⟨bw_686, bw_3, ⟨by decide, by decide⟩, by decide +kernel, rfl⟩
theorem ci_X3_copy : Cond.instanceMethod (mY mX3_copy) ∈ BIG := bw_684
theorem cv_X3_copy : CV mX3_copy := ⟨ci_X3_copy, bw_685⟩
theorem fg_RX12_9 : FG RX12 9 12 0 := ⟨RX12, TX12, 19, rfl, by decide, rfl, inB12, rfl, Or.inl bw_1621⟩
theorem fp_RX12_9 : FP RX12 9 12 0 (tyX12 0) true := ⟨fg_RX12_9, RX12, TX12, 19, tyX12, rfl, tyX12_ok, nmX12, rfl, by decide +kernel⟩
theorem fg_RX12_13 : FG RX12 13 12 1 := ⟨RX12, TX12, 19, rfl, by decide, rfl, inB12, rfl, Or.inl bw_1622⟩
theorem fp_RX12_13 : FP RX12 13 12 1 (tyX12 1) true := ⟨fg_RX12_13, RX12, TX12, 19, tyX12, rfl, tyX12_ok, nmX12, rfl, by decide +kernel⟩
theorem fg_RX12_16 : FG RX12 16 12 2 := ⟨RX12, TX12, 19, rfl, by decide, rfl, inB12, rfl, Or.inl bw_1623⟩
theorem fp_RX12_16 : FP RX12 16 12 2 (tyX12 2) true := ⟨fg_RX12_16, RX12, TX12, 19, tyX12, rfl, tyX12_ok, nmX12, rfl, by decide +kernel⟩
theorem fg_RX12_19 : FG RX12 19 12 6 := ⟨RX12, TX12, 19, rfl, by decide, rfl, inB12, rfl, Or.inl bw_1627⟩
theorem fp_RX12_19 : FP RX12 19 12 6 (tyX12 6) true := ⟨fg_RX12_19, RX12, TX12, 19, tyX12, rfl, tyX12_ok, nmX12, rfl, by decide +kernel⟩
theorem fg_RX12_22 : FG RX12 22 12 8 := ⟨RX12, TX12, 19, rfl, by decide, rfl, inB12, rfl, Or.inl bw_1629⟩
theorem fp_RX12_22 : FP RX12 22 12 8 (tyX12 8) true := ⟨fg_RX12_22, RX12, TX12, 19, tyX12, rfl, tyX12_ok, nmX12, rfl, by decide +kernel⟩
theorem fg_RX12_25 : FG RX12 25 12 10 := ⟨RX12, TX12, 19, rfl, by decide, rfl, inB12, rfl, Or.inl bw_1631⟩
theorem fp_RX12_25 : FP RX12 25 12 10 .int false := ⟨fg_RX12_25, RX12, TX12, 19, tyX12, rfl, tyX12_ok, nmX12, rfl, by decide +kernel⟩
theorem fg_RX12_29 : FG RX12 29 12 11 := ⟨RX12, TX12, 19, rfl, by decide, rfl, inB12, rfl, Or.inl bw_1632⟩
theorem fp_RX12_29 : FP RX12 29 12 11 .int false := ⟨fg_RX12_29, RX12, TX12, 19, tyX12, rfl, tyX12_ok, nmX12, rfl, by decide +kernel⟩
theorem fg_RX12_32 : FG RX12 32 12 12 := ⟨RX12, TX12, 19, rfl, by decide, rfl, inB12, rfl, Or.inl bw_1633⟩
theorem fp_RX12_32 : FP RX12 32 12 12 (tyX12 12) true := ⟨fg_RX12_32, RX12, TX12, 19, tyX12, rfl, tyX12_ok, nmX12, rfl, by decide +kernel⟩
theorem fg_RX12_35 : FG RX12 35 12 14 := ⟨RX12, TX12, 19, rfl, by decide, rfl, inB12, rfl, Or.inl bw_1635⟩
theorem fp_RX12_35 : FP RX12 35 12 14 (tyX12 14) true := ⟨fg_RX12_35, RX12, TX12, 19, tyX12, rfl, tyX12_ok, nmX12, rfl, by decide +kernel⟩
theorem fg_RX12_38 : FG RX12 38 12 16 := ⟨RX12, TX12, 19, rfl, by decide, rfl, inB12, rfl, Or.inl bw_1637⟩
theorem fp_RX12_38 : FP RX12 38 12 16 (tyX12 16) true := ⟨fg_RX12_38, RX12, TX12, 19, tyX12, rfl, tyX12_ok, nmX12, rfl, by decide +kernel⟩
theorem fg_RX12_41 : FG RX12 41 12 5 := ⟨RX12, TX12, 19, rfl, by decide, rfl, inB12, rfl, Or.inl bw_1626⟩
theorem fp_RX12_41 : FP RX12 41 12 5 .int false := ⟨fg_RX12_41, RX12, TX12, 19, tyX12, rfl, tyX12_ok, nmX12, rfl, by decide +kernel⟩
theorem fg_RX12_44 : FG RX12 44 12 3 := ⟨RX12, TX12, 19, rfl, by decide, rfl, inB12, rfl, Or.inl bw_1624⟩
theorem fp_RX12_44 : FP RX12 44 12 3 .int false := ⟨fg_RX12_44, RX12, TX12, 19, tyX12, rfl, tyX12_ok, nmX12, rfl, by decide +kernel⟩
theorem fg_RX12_47 : FG RX12 47 12 4 := ⟨RX12, TX12, 19, rfl, by decide, rfl, inB12, rfl, Or.inl bw_1625⟩
theorem cl_RX12_51 : CL RX12 51 mX12_remember := Or.inl bw_1728
theorem cm_X12_remember : CM mX12_remember 1 := ⟨bw_1731, bw_13, ⟨by decide, by decide⟩, by decide +kernel, rfl⟩
theorem ci_X12_remember : Cond.instanceMethod (mY mX12_remember) ∈ BIG := bw_1730
theorem cv_X12_remember : CV mX12_remember := ⟨ci_X12_remember, bs_67⟩
theorem cl_RX12_55 : CL RX12 55 mX12_fails := Or.inl bw_1687
theorem cm_X12_fails : CM mX12_fails 2 := ⟨bw_1690, bw_13, ⟨by decide, by decide⟩, by decide +kernel, rfl⟩
theorem ci_X12_fails : Cond.instanceMethod (mY mX12_fails) ∈ BIG := bw_1689
theorem cv_X12_fails : CV mX12_fails := ⟨ci_X12_fails, bs_63⟩
theorem fg_RX12_59 : FG RX12 59 12 7 := ⟨RX12, TX12, 19, rfl, by decide, rfl, inB12, rfl, Or.inl bw_1628⟩
theorem fp_RX12_59 : FP RX12 59 12 7 .int false := ⟨fg_RX12_59, RX12, TX12, 19, tyX12, rfl, tyX12_ok, nmX12, rfl, by decide +kernel⟩
theorem cl_RX12_64 : CL RX12 64 mX12_in := Or.inl bw_1708
theorem cm_X12_in : CM mX12_in 3 := ⟨bw_1710, bw_13, ⟨by decide, by decide⟩, by decide +kernel, rfl⟩
theorem cs_X12_in : Cond.static (mY mX12_in) ∈ BIG := bw_1709
theorem fg_RX12_70 : FG RX12 70 12 13 := ⟨RX12, TX12, 19, rfl, by decide, rfl, inB12, rfl, Or.inl bw_1634⟩
theorem fp_RX12_70 : FP RX12 70 12 13 .int false := ⟨fg_RX12_70, RX12, TX12, 19, tyX12, rfl, tyX12_ok, nmX12, rfl, by decide +kernel⟩
theorem cl_RX12_73 : CL RX12 73 mX12_isHigh := Or.inl bw_1703
theorem cm_X12_isHigh : CM mX12_isHigh 1 := ⟨bw_1705, bw_13, ⟨by decide, by decide⟩, by decide +kernel, rfl⟩
theorem cs_X12_isHigh : Cond.static (mY mX12_isHigh) ∈ BIG := bw_1704
theorem cl_RX12_77 : CL RX12 77 mX12_isLow := Or.inl bw_1711
theorem cm_X12_isLow : CM mX12_isLow 1 := ⟨bw_1713, bw_13, ⟨by decide, by decide⟩, by decide +kernel, rfl⟩
theorem cs_X12_isLow : Cond.static (mY mX12_isLow) ∈ BIG := bw_1712
theorem cl_RX12_81 : CL RX12 81 mX12_nameAt := Or.inl bw_1721
theorem cm_X12_nameAt : CM mX12_nameAt 1 := ⟨bw_1723, bw_13, ⟨by decide, by decide⟩, by decide +kernel, rfl⟩
theorem cs_X12_nameAt : Cond.static (mY mX12_nameAt) ∈ BIG := bw_1722
theorem cl_RX12_85 : CL RX12 85 mX12_readName := Or.inl bw_1699
theorem cm_X12_readName : CM mX12_readName 0 := ⟨bw_1702, bw_13, ⟨by decide, by decide⟩, by decide +kernel, rfl⟩
theorem ci_X12_readName : Cond.instanceMethod (mY mX12_readName) ∈ BIG := bw_1701
theorem cv_X12_readName : CV mX12_readName := ⟨ci_X12_readName, bs_64⟩
theorem cl_RX12_89 : CL RX12 89 mX12_named := Or.inl bw_1717
theorem cm_X12_named : CM mX12_named 0 := ⟨bw_1720, bw_13, ⟨by decide, by decide⟩, by decide +kernel, rfl⟩
theorem ci_X12_named : Cond.instanceMethod (mY mX12_named) ∈ BIG := bw_1719
theorem cv_X12_named : CV mX12_named := ⟨ci_X12_named, bs_65⟩
theorem cl_RX12_93 : CL RX12 93 mX12_change := Or.inl bw_1724
theorem cm_X12_change : CM mX12_change 0 := ⟨bw_1727, bw_13, ⟨by decide, by decide⟩, by decide +kernel, rfl⟩
theorem ci_X12_change : Cond.instanceMethod (mY mX12_change) ∈ BIG := bw_1726
theorem cv_X12_change : CV mX12_change := ⟨ci_X12_change, bs_66⟩
theorem cl_RX12_96 : CL RX12 96 mX12_noParty := Or.inl bw_1744
theorem cm_X12_noParty : CM mX12_noParty 1 := ⟨bw_1747, bw_13, ⟨by decide, by decide⟩, by decide +kernel, rfl⟩
theorem ci_X12_noParty : Cond.instanceMethod (mY mX12_noParty) ∈ BIG := bw_1746
theorem cv_X12_noParty : CV mX12_noParty := ⟨ci_X12_noParty, bs_68⟩
theorem fg_RX12_99 : FG RX12 99 12 9 := ⟨RX12, TX12, 19, rfl, by decide, rfl, inB12, rfl, Or.inl bw_1630⟩
theorem fp_RX12_99 : FP RX12 99 12 9 .int false := ⟨fg_RX12_99, RX12, TX12, 19, tyX12, rfl, tyX12_ok, nmX12, rfl, by decide +kernel⟩
theorem cl_RX12_102 : CL RX12 102 mX12_put := Or.inl bw_1756
theorem cm_X12_put : CM mX12_put 1 := ⟨bw_1759, bw_13, ⟨by decide, by decide⟩, by decide +kernel, rfl⟩
theorem ci_X12_put : Cond.instanceMethod (mY mX12_put) ∈ BIG := bw_1758
theorem cv_X12_put : CV mX12_put := ⟨ci_X12_put, bs_69⟩
theorem cl_RX12_106 : CL RX12 106 mX12_isDay := Or.inl bw_1772
theorem cm_X12_isDay : CM mX12_isDay 1 := ⟨bw_1774, bw_13, ⟨by decide, by decide⟩, by decide +kernel, rfl⟩
theorem cs_X12_isDay : Cond.static (mY mX12_isDay) ∈ BIG := bw_1773
theorem cl_RX12_109 : CL RX12 109 mX12_holidayAt := Or.inl bw_1783
theorem cm_X12_holidayAt : CM mX12_holidayAt 1 := ⟨bw_1786, bw_13, ⟨by decide, by decide⟩, by decide +kernel, rfl⟩
theorem ci_X12_holidayAt : Cond.instanceMethod (mY mX12_holidayAt) ∈ BIG := bw_1785
theorem cv_X12_holidayAt : CV mX12_holidayAt := ⟨ci_X12_holidayAt, bs_71⟩
theorem cl_RX12_112 : CL RX12 112 mX12_isCourt := Or.inl bw_1779
theorem cm_X12_isCourt : CM mX12_isCourt 1 := ⟨bw_1782, bw_13, ⟨by decide, by decide⟩, by decide +kernel, rfl⟩
theorem ci_X12_isCourt : Cond.instanceMethod (mY mX12_isCourt) ∈ BIG := bw_1781
theorem cv_X12_isCourt : CV mX12_isCourt := ⟨ci_X12_isCourt, bs_70⟩
theorem cl_RX12_115 : CL RX12 115 mX12_courtDays := Or.inl bw_1803
theorem cm_X12_courtDays : CM mX12_courtDays 2 := ⟨bw_1798, bw_13, ⟨by decide, by decide⟩, by decide +kernel, rfl⟩
theorem ci_X12_courtDays : Cond.instanceMethod (mY mX12_courtDays) ∈ BIG := bw_1796
theorem cv_X12_courtDays : CV mX12_courtDays := ⟨ci_X12_courtDays, bw_1797⟩
theorem cl_RX12_119 : CL RX12 119 mX12_noRule := Or.inl bw_1808
theorem cm_X12_noRule : CM mX12_noRule 1 := ⟨bw_1810, bw_13, ⟨by decide, by decide⟩, by decide +kernel, rfl⟩
theorem cs_X12_noRule : Cond.static (mY mX12_noRule) ∈ BIG := bw_1809
theorem cl_RX12_122 : CL RX12 122 mX12_wayOf := Or.inl bw_1823
theorem cm_X12_wayOf : CM mX12_wayOf 1 := ⟨bw_1825, bw_13, ⟨by decide, by decide⟩, by decide +kernel, rfl⟩
theorem cs_X12_wayOf : Cond.static (mY mX12_wayOf) ∈ BIG := bw_1824
theorem cl_RX12_125 : CL RX12 125 mX12_lastDayBefore := Or.inl bw_1838
theorem cm_X12_lastDayBefore : CM mX12_lastDayBefore 2 := ⟨bw_1833, bw_13, ⟨by decide, by decide⟩, by decide +kernel, rfl⟩
theorem ci_X12_lastDayBefore : Cond.instanceMethod (mY mX12_lastDayBefore) ∈ BIG := bw_1831
theorem cv_X12_lastDayBefore : CV mX12_lastDayBefore := ⟨ci_X12_lastDayBefore, bw_1832⟩
theorem cl_RX12_128 : CL RX12 128 mX12_deadlineAt := Or.inl bw_1843
theorem cm_X12_deadlineAt : CM mX12_deadlineAt 1 := ⟨bw_1845, bw_13, ⟨by decide, by decide⟩, by decide +kernel, rfl⟩
theorem cs_X12_deadlineAt : Cond.static (mY mX12_deadlineAt) ∈ BIG := bw_1844
theorem cl_RX12_131 : CL RX12 131 mX12_of := Or.inl bw_1862
theorem cm_X12_of : CM mX12_of 2 := ⟨bw_1865, bw_13, ⟨by decide, by decide⟩, by decide +kernel, rfl⟩
theorem ci_X12_of : Cond.instanceMethod (mY mX12_of) ∈ BIG := bw_1864
theorem cv_X12_of : CV mX12_of := ⟨ci_X12_of, bs_74⟩
theorem cl_RX12_134 : CL RX12 134 mX12_isStoppedFor := Or.inl bw_1878
theorem cm_X12_isStoppedFor : CM mX12_isStoppedFor 3 := ⟨bw_1881, bw_13, ⟨by decide, by decide⟩, by decide +kernel, rfl⟩
theorem ci_X12_isStoppedFor : Cond.instanceMethod (mY mX12_isStoppedFor) ∈ BIG := bw_1880
theorem cv_X12_isStoppedFor : CV mX12_isStoppedFor := ⟨ci_X12_isStoppedFor, bs_78⟩
theorem cl_RX12_137 : CL RX12 137 mX12_parts := Or.inl bw_1866
theorem cm_X12_parts : CM mX12_parts 1 := ⟨bw_1869, bw_13, ⟨by decide, by decide⟩, by decide +kernel, rfl⟩
theorem ci_X12_parts : Cond.instanceMethod (mY mX12_parts) ∈ BIG := bw_1868
theorem cv_X12_parts : CV mX12_parts := ⟨ci_X12_parts, bs_75⟩
theorem cl_RX12_140 : CL RX12 140 mX12_partLength := Or.inl bw_1870
theorem cm_X12_partLength : CM mX12_partLength 2 := ⟨bw_1873, bw_13, ⟨by decide, by decide⟩, by decide +kernel, rfl⟩
theorem ci_X12_partLength : Cond.instanceMethod (mY mX12_partLength) ∈ BIG := bw_1872
theorem cv_X12_partLength : CV mX12_partLength := ⟨ci_X12_partLength, bs_76⟩
theorem cl_RX12_143 : CL RX12 143 mX12_endOf := Or.inl bw_1874
theorem cm_X12_endOf : CM mX12_endOf 5 := ⟨bw_1877, bw_13, ⟨by decide, by decide⟩, by decide +kernel, rfl⟩
theorem ci_X12_endOf : Cond.instanceMethod (mY mX12_endOf) ∈ BIG := bw_1876
theorem cv_X12_endOf : CV mX12_endOf := ⟨ci_X12_endOf, bs_77⟩
theorem cl_RX12_147 : CL RX12 147 mX12_noDeadline := Or.inl bw_1854
theorem cm_X12_noDeadline : CM mX12_noDeadline 1 := ⟨bw_1857, bw_13, ⟨by decide, by decide⟩, by decide +kernel, rfl⟩
theorem ci_X12_noDeadline : Cond.instanceMethod (mY mX12_noDeadline) ∈ BIG := bw_1856
theorem cv_X12_noDeadline : CV mX12_noDeadline := ⟨ci_X12_noDeadline, bs_72⟩
theorem cl_RX12_150 : CL RX12 150 mX12_dueOf := Or.inl bw_1858
theorem cm_X12_dueOf : CM mX12_dueOf 1 := ⟨bw_1861, bw_13, ⟨by decide, by decide⟩, by decide +kernel, rfl⟩
theorem ci_X12_dueOf : Cond.instanceMethod (mY mX12_dueOf) ∈ BIG := bw_1860
theorem cv_X12_dueOf : CV mX12_dueOf := ⟨ci_X12_dueOf, bs_73⟩
theorem cl_RX12_153 : CL RX12 153 mX12_due := Or.inl bw_1886
theorem cm_X12_due : CM mX12_due 1 := ⟨bw_1853, bw_13, ⟨by decide, by decide⟩, by decide +kernel, rfl⟩
theorem ci_X12_due : Cond.instanceMethod (mY mX12_due) ∈ BIG := bw_1851
theorem cv_X12_due : CV mX12_due := ⟨ci_X12_due, bw_1852⟩
theorem cl_RX12_156 : CL RX12 156 mX12_leftOf := Or.inl bw_1891
theorem cm_X12_leftOf : CM mX12_leftOf 1 := ⟨bw_1894, bw_13, ⟨by decide, by decide⟩, by decide +kernel, rfl⟩
theorem ci_X12_leftOf : Cond.instanceMethod (mY mX12_leftOf) ∈ BIG := bw_1893
theorem cv_X12_leftOf : CV mX12_leftOf := ⟨ci_X12_leftOf, bs_79⟩
theorem cl_RX12_159 : CL RX12 159 mX12_daysLeft := Or.inl bw_1899
theorem cm_X12_daysLeft : CM mX12_daysLeft 1 := ⟨bw_1890, bw_13, ⟨by decide, by decide⟩, by decide +kernel, rfl⟩
theorem ci_X12_daysLeft : Cond.instanceMethod (mY mX12_daysLeft) ∈ BIG := bw_1888
theorem cv_X12_daysLeft : CV mX12_daysLeft := ⟨ci_X12_daysLeft, bw_1889⟩
theorem cl_RX12_162 : CL RX12 162 mX12_grantedOf := Or.inl bw_1916
theorem cm_X12_grantedOf : CM mX12_grantedOf 1 := ⟨bw_1919, bw_13, ⟨by decide, by decide⟩, by decide +kernel, rfl⟩
theorem ci_X12_grantedOf : Cond.instanceMethod (mY mX12_grantedOf) ∈ BIG := bw_1918
theorem cv_X12_grantedOf : CV mX12_grantedOf := ⟨ci_X12_grantedOf, bs_83⟩
theorem cl_RX12_165 : CL RX12 165 mX12_isOpen := Or.inl bw_1904
theorem cm_X12_isOpen : CM mX12_isOpen 1 := ⟨bw_1907, bw_13, ⟨by decide, by decide⟩, by decide +kernel, rfl⟩
theorem ci_X12_isOpen : Cond.instanceMethod (mY mX12_isOpen) ∈ BIG := bw_1906
theorem cv_X12_isOpen : CV mX12_isOpen := ⟨ci_X12_isOpen, bs_80⟩
theorem cl_RX12_168 : CL RX12 168 mX12_isPast := Or.inl bw_1908
theorem cm_X12_isPast : CM mX12_isPast 1 := ⟨bw_1911, bw_13, ⟨by decide, by decide⟩, by decide +kernel, rfl⟩
theorem ci_X12_isPast : Cond.instanceMethod (mY mX12_isPast) ∈ BIG := bw_1910
theorem cv_X12_isPast : CV mX12_isPast := ⟨ci_X12_isPast, bs_81⟩
theorem cl_RX12_171 : CL RX12 171 mX12_grant := Or.inl bw_1912
theorem cm_X12_grant : CM mX12_grant 2 := ⟨bw_1915, bw_13, ⟨by decide, by decide⟩, by decide +kernel, rfl⟩
theorem ci_X12_grant : Cond.instanceMethod (mY mX12_grant) ∈ BIG := bw_1914
theorem cv_X12_grant : CV mX12_grant := ⟨ci_X12_grant, bs_82⟩
theorem cl_RX12_174 : CL RX12 174 mX12_findDues := Or.inl bw_1944
theorem cm_X12_findDues : CM mX12_findDues 0 := ⟨bw_1947, bw_13, ⟨by decide, by decide⟩, by decide +kernel, rfl⟩
theorem ci_X12_findDues : Cond.instanceMethod (mY mX12_findDues) ∈ BIG := bw_1946
theorem cv_X12_findDues : CV mX12_findDues := ⟨ci_X12_findDues, bs_84⟩
theorem cl_RX12_177 : CL RX12 177 mX12_order := Or.inl bw_1964
theorem cm_X12_order : CM mX12_order 2 := ⟨bw_1967, bw_13, ⟨by decide, by decide⟩, by decide +kernel, rfl⟩
theorem ci_X12_order : Cond.instanceMethod (mY mX12_order) ∈ BIG := bw_1966
theorem cv_X12_order : CV mX12_order := ⟨ci_X12_order, bs_85⟩
theorem cl_RX12_180 : CL RX12 180 mX12_isStoppedOf := Or.inl bw_1984
theorem cm_X12_isStoppedOf : CM mX12_isStoppedOf 2 := ⟨bw_1987, bw_13, ⟨by decide, by decide⟩, by decide +kernel, rfl⟩
theorem ci_X12_isStoppedOf : Cond.instanceMethod (mY mX12_isStoppedOf) ∈ BIG := bw_1986
theorem cv_X12_isStoppedOf : CV mX12_isStoppedOf := ⟨ci_X12_isStoppedOf, bs_86⟩
theorem cl_RX12_184 : CL RX12 184 mX12_stoppedDays := Or.inl bw_1996
theorem cm_X12_stoppedDays : CM mX12_stoppedDays 3 := ⟨bw_1991, bw_13, ⟨by decide, by decide⟩, by decide +kernel, rfl⟩
theorem ci_X12_stoppedDays : Cond.instanceMethod (mY mX12_stoppedDays) ∈ BIG := bw_1989
theorem cv_X12_stoppedDays : CV mX12_stoppedDays := ⟨ci_X12_stoppedDays, bw_1990⟩
theorem cl_RX12_188 : CL RX12 188 mX12_occurrenceAt := Or.inl bw_2001
theorem cm_X12_occurrenceAt : CM mX12_occurrenceAt 1 := ⟨bw_2003, bw_13, ⟨by decide, by decide⟩, by decide +kernel, rfl⟩
theorem cs_X12_occurrenceAt : Cond.static (mY mX12_occurrenceAt) ∈ BIG := bw_2002
theorem cl_RX12_191 : CL RX12 191 mX12_noOccurrence := Or.inl bw_2008
theorem cm_X12_noOccurrence : CM mX12_noOccurrence 1 := ⟨bw_2011, bw_13, ⟨by decide, by decide⟩, by decide +kernel, rfl⟩
theorem ci_X12_noOccurrence : Cond.instanceMethod (mY mX12_noOccurrence) ∈ BIG := bw_2010
theorem cv_X12_noOccurrence : CV mX12_noOccurrence := ⟨ci_X12_noOccurrence, bs_87⟩
theorem cl_RX12_194 : CL RX12 194 mX12_conduct := Or.inl bw_2012
theorem cm_X12_conduct : CM mX12_conduct 1 := ⟨bw_2015, bw_13, ⟨by decide, by decide⟩, by decide +kernel, rfl⟩
theorem ci_X12_conduct : Cond.instanceMethod (mY mX12_conduct) ∈ BIG := bw_2014
theorem cv_X12_conduct : CV mX12_conduct := ⟨ci_X12_conduct, bs_88⟩
theorem cl_RX12_197 : CL RX12 197 mX12_sameConduct := Or.inl bw_2024
theorem cm_X12_sameConduct : CM mX12_sameConduct 2 := ⟨bw_2019, bw_13, ⟨by decide, by decide⟩, by decide +kernel, rfl⟩
theorem ci_X12_sameConduct : Cond.instanceMethod (mY mX12_sameConduct) ∈ BIG := bw_2017
theorem cv_X12_sameConduct : CV mX12_sameConduct := ⟨ci_X12_sameConduct, bw_2018⟩
theorem cl_RX12_200 : CL RX12 200 mX12_barOf := Or.inl bw_2029
theorem cm_X12_barOf : CM mX12_barOf 1 := ⟨bw_2032, bw_13, ⟨by decide, by decide⟩, by decide +kernel, rfl⟩
theorem ci_X12_barOf : Cond.instanceMethod (mY mX12_barOf) ∈ BIG := bw_2031
theorem cv_X12_barOf : CV mX12_barOf := ⟨ci_X12_barOf, bs_89⟩
theorem cl_RX12_203 : CL RX12 203 mX12_claimAt := Or.inl bw_2041
theorem cm_X12_claimAt : CM mX12_claimAt 1 := ⟨bw_2043, bw_13, ⟨by decide, by decide⟩, by decide +kernel, rfl⟩
theorem cs_X12_claimAt : Cond.static (mY mX12_claimAt) ∈ BIG := bw_2042
theorem cl_RX12_206 : CL RX12 206 mX12_claim := Or.inl bw_2037
theorem cm_X12_claim : CM mX12_claim 3 := ⟨bw_2040, bw_13, ⟨by decide, by decide⟩, by decide +kernel, rfl⟩
theorem ci_X12_claim : Cond.instanceMethod (mY mX12_claim) ∈ BIG := bw_2039
theorem cv_X12_claim : CV mX12_claim := ⟨ci_X12_claim, bs_90⟩
theorem cl_RX12_209 : CL RX12 209 mX12_noClaim := Or.inl bw_2048
theorem cm_X12_noClaim : CM mX12_noClaim 1 := ⟨bw_2051, bw_13, ⟨by decide, by decide⟩, by decide +kernel, rfl⟩
theorem ci_X12_noClaim : Cond.instanceMethod (mY mX12_noClaim) ∈ BIG := bw_2050
theorem cv_X12_noClaim : CV mX12_noClaim := ⟨ci_X12_noClaim, bs_91⟩
theorem cl_RX12_212 : CL RX12 212 mX12_effectiveOf := Or.inl bw_2056
theorem cm_X12_effectiveOf : CM mX12_effectiveOf 1 := ⟨bw_2059, bw_13, ⟨by decide, by decide⟩, by decide +kernel, rfl⟩
theorem ci_X12_effectiveOf : Cond.instanceMethod (mY mX12_effectiveOf) ∈ BIG := bw_2058
theorem cv_X12_effectiveOf : CV mX12_effectiveOf := ⟨ci_X12_effectiveOf, bs_92⟩
theorem cl_RX12_215 : CL RX12 215 mX12_isTimelyNow := Or.inl bw_2064
theorem cm_X12_isTimelyNow : CM mX12_isTimelyNow 1 := ⟨bw_2067, bw_13, ⟨by decide, by decide⟩, by decide +kernel, rfl⟩
theorem ci_X12_isTimelyNow : Cond.instanceMethod (mY mX12_isTimelyNow) ∈ BIG := bw_2066
theorem cv_X12_isTimelyNow : CV mX12_isTimelyNow := ⟨ci_X12_isTimelyNow, bs_93⟩
theorem cl_RX12_218 : CL RX12 218 mX12_putNumber := Or.inl bw_2076
theorem cm_X12_putNumber : CM mX12_putNumber 1 := ⟨bw_2079, bw_13, ⟨by decide, by decide⟩, by decide +kernel, rfl⟩
theorem ci_X12_putNumber : Cond.instanceMethod (mY mX12_putNumber) ∈ BIG := bw_2078
theorem cv_X12_putNumber : CV mX12_putNumber := ⟨ci_X12_putNumber, bs_94⟩
theorem fg_RX12_221 : FG RX12 221 12 18 := ⟨RX12, TX12, 19, rfl, by decide, rfl, inB12, rfl, Or.inl bw_1639⟩
theorem fg_RX12_224 : FG RX12 224 12 17 := ⟨RX12, TX12, 19, rfl, by decide, rfl, inB12, rfl, Or.inl bw_1638⟩
theorem cl_RX12_227 : CL RX12 227 mX12_isAt := Or.inl bw_2100
theorem cm_X12_isAt : CM mX12_isAt 1 := ⟨bw_2103, bw_13, ⟨by decide, by decide⟩, by decide +kernel, rfl⟩
theorem ci_X12_isAt : Cond.instanceMethod (mY mX12_isAt) ∈ BIG := bw_2102
theorem cv_X12_isAt : CV mX12_isAt := ⟨ci_X12_isAt, bs_97⟩
theorem fp_RX12_221 : FP RX12 221 12 18 .boolean false := ⟨fg_RX12_221, RX12, TX12, 19, tyX12, rfl, tyX12_ok, nmX12, rfl, by decide +kernel⟩
theorem fp_RX12_224 : FP RX12 224 12 17 .int false := ⟨fg_RX12_224, RX12, TX12, 19, tyX12, rfl, tyX12_ok, nmX12, rfl, by decide +kernel⟩
theorem cl_RX12_230 : CL RX12 230 mX12_take := Or.inl bw_2108
theorem cm_X12_take : CM mX12_take 1 := ⟨bw_2111, bw_13, ⟨by decide, by decide⟩, by decide +kernel, rfl⟩
theorem ci_X12_take : Cond.instanceMethod (mY mX12_take) ∈ BIG := bw_2110
theorem cv_X12_take : CV mX12_take := ⟨ci_X12_take, bs_99⟩
theorem cl_RX12_233 : CL RX12 233 mX12_takeIf := Or.inl bw_2112
theorem cm_X12_takeIf : CM mX12_takeIf 1 := ⟨bw_2115, bw_13, ⟨by decide, by decide⟩, by decide +kernel, rfl⟩
theorem ci_X12_takeIf : Cond.instanceMethod (mY mX12_takeIf) ∈ BIG := bw_2114
theorem cv_X12_takeIf : CV mX12_takeIf := ⟨ci_X12_takeIf, bs_100⟩
theorem cl_RX12_236 : CL RX12 236 mX12_isDigit := Or.inl bw_2124
theorem cm_X12_isDigit : CM mX12_isDigit 0 := ⟨bw_2127, bw_13, ⟨by decide, by decide⟩, by decide +kernel, rfl⟩
theorem ci_X12_isDigit : Cond.instanceMethod (mY mX12_isDigit) ∈ BIG := bw_2126
theorem cv_X12_isDigit : CV mX12_isDigit := ⟨ci_X12_isDigit, bs_103⟩
theorem cl_RX12_239 : CL RX12 239 mX12_digits := Or.inl bw_2120
theorem cm_X12_digits : CM mX12_digits 1 := ⟨bw_2123, bw_13, ⟨by decide, by decide⟩, by decide +kernel, rfl⟩
theorem ci_X12_digits : Cond.instanceMethod (mY mX12_digits) ∈ BIG := bw_2122
theorem cv_X12_digits : CV mX12_digits := ⟨ci_X12_digits, bs_102⟩
theorem fg_RX12_242 : FG RX12 242 12 15 := ⟨RX12, TX12, 19, rfl, by decide, rfl, inB12, rfl, Or.inl bw_1636⟩
theorem cl_RX12_245 : CL RX12 245 mX12_takeWord := Or.inl bw_2104
theorem cm_X12_takeWord : CM mX12_takeWord 6 := ⟨bw_2107, bw_13, ⟨by decide, by decide⟩, by decide +kernel, rfl⟩
theorem ci_X12_takeWord : Cond.instanceMethod (mY mX12_takeWord) ∈ BIG := bw_2106
theorem cv_X12_takeWord : CV mX12_takeWord := ⟨ci_X12_takeWord, bs_98⟩
theorem cl_RX12_249 : CL RX12 249 mX12_argument := Or.inl bw_2116
theorem cm_X12_argument : CM mX12_argument 1 := ⟨bw_2119, bw_13, ⟨by decide, by decide⟩, by decide +kernel, rfl⟩
theorem ci_X12_argument : Cond.instanceMethod (mY mX12_argument) ∈ BIG := bw_2118
theorem cv_X12_argument : CV mX12_argument := ⟨ci_X12_argument, bs_101⟩
theorem fp_RX12_242 : FP RX12 242 12 15 .int false := ⟨fg_RX12_242, RX12, TX12, 19, tyX12, rfl, tyX12_ok, nmX12, rfl, by decide +kernel⟩
theorem cl_RX12_252 : CL RX12 252 mX12_command := Or.inl bw_2096
theorem cm_X12_command : CM mX12_command 0 := ⟨bw_2099, bw_13, ⟨by decide, by decide⟩, by decide +kernel, rfl⟩
theorem ci_X12_command : Cond.instanceMethod (mY mX12_command) ∈ BIG := bw_2098
theorem cv_X12_command : CV mX12_command := ⟨ci_X12_command, bs_96⟩
theorem cl_RX12_255 : CL RX12 255 mX12_serve := Or.inl bw_2132
theorem cm_X12_serve : CM mX12_serve 3 := ⟨bw_1842, bw_13, ⟨by decide, by decide⟩, by decide +kernel, rfl⟩
theorem ci_X12_serve : Cond.instanceMethod (mY mX12_serve) ∈ BIG := bw_1840
theorem cv_X12_serve : CV mX12_serve := ⟨ci_X12_serve, bw_1841⟩
theorem cl_RX12_259 : CL RX12 259 mX12_advance := Or.inl bw_2133
theorem cm_X12_advance : CM mX12_advance 1 := ⟨bw_1767, bw_13, ⟨by decide, by decide⟩, by decide +kernel, rfl⟩
theorem ci_X12_advance : Cond.instanceMethod (mY mX12_advance) ∈ BIG := bw_1765
theorem cv_X12_advance : CV mX12_advance := ⟨ci_X12_advance, bw_1766⟩
theorem cl_RX12_262 : CL RX12 262 mX12_stayAll := Or.inl bw_2134
theorem cm_X12_stayAll : CM mX12_stayAll 1 := ⟨bw_1971, bw_13, ⟨by decide, by decide⟩, by decide +kernel, rfl⟩
theorem ci_X12_stayAll : Cond.instanceMethod (mY mX12_stayAll) ∈ BIG := bw_1969
theorem cv_X12_stayAll : CV mX12_stayAll := ⟨ci_X12_stayAll, bw_1970⟩
theorem cl_RX12_265 : CL RX12 265 mX12_lift := Or.inl bw_2135
theorem cm_X12_lift : CM mX12_lift 1 := ⟨bw_1975, bw_13, ⟨by decide, by decide⟩, by decide +kernel, rfl⟩
theorem ci_X12_lift : Cond.instanceMethod (mY mX12_lift) ∈ BIG := bw_1973
theorem cv_X12_lift : CV mX12_lift := ⟨ci_X12_lift, bw_1974⟩
theorem cl_RX12_268 : CL RX12 268 mX12_extendByConsent := Or.inl bw_2136
theorem cm_X12_extendByConsent : CM mX12_extendByConsent 2 := ⟨bw_1903, bw_13, ⟨by decide, by decide⟩, by decide +kernel, rfl⟩
theorem ci_X12_extendByConsent : Cond.instanceMethod (mY mX12_extendByConsent) ∈ BIG := bw_1901
theorem cv_X12_extendByConsent : CV mX12_extendByConsent := ⟨ci_X12_extendByConsent, bw_1902⟩
theorem cl_RX12_271 : CL RX12 271 mX12_file := Or.inl bw_2137
theorem cm_X12_file : CM mX12_file 1 := ⟨bw_1931, bw_13, ⟨by decide, by decide⟩, by decide +kernel, rfl⟩
theorem ci_X12_file : Cond.instanceMethod (mY mX12_file) ∈ BIG := bw_1929
theorem cv_X12_file : CV mX12_file := ⟨ci_X12_file, bw_1930⟩
theorem cl_RX12_274 : CL RX12 274 mX12_addHoliday := Or.inl bw_2138
theorem cm_X12_addHoliday : CM mX12_addHoliday 1 := ⟨bw_1790, bw_13, ⟨by decide, by decide⟩, by decide +kernel, rfl⟩
theorem ci_X12_addHoliday : Cond.instanceMethod (mY mX12_addHoliday) ∈ BIG := bw_1788
theorem cv_X12_addHoliday : CV mX12_addHoliday := ⟨ci_X12_addHoliday, bw_1789⟩
theorem cl_RX12_277 : CL RX12 277 mX12_readProgram := Or.inl bw_2092
theorem cm_X12_readProgram : CM mX12_readProgram 0 := ⟨bw_2095, bw_13, ⟨by decide, by decide⟩, by decide +kernel, rfl⟩
theorem ci_X12_readProgram : Cond.instanceMethod (mY mX12_readProgram) ∈ BIG := bw_2094
theorem cv_X12_readProgram : CV mX12_readProgram := ⟨ci_X12_readProgram, bs_95⟩
theorem fp_RX12_47 : FP RX12 47 12 4 .boolean false := ⟨fg_RX12_47, RX12, TX12, 19, tyX12, rfl, tyX12_ok, nmX12, rfl, by decide +kernel⟩
theorem cl_RX12_280 : CL RX12 280 mX12_execute := Or.inl bw_2128
theorem cm_X12_execute : CM mX12_execute 1 := ⟨bw_2131, bw_13, ⟨by decide, by decide⟩, by decide +kernel, rfl⟩
theorem ci_X12_execute : Cond.instanceMethod (mY mX12_execute) ∈ BIG := bw_2130
theorem cv_X12_execute : CV mX12_execute := ⟨ci_X12_execute, bs_104⟩
theorem cl_RL_7 : CL RL 7 mX11_type := Or.inl bw_591
theorem cm_X11_type : CM mX11_type 1 := ⟨bw_594, bw_1, ⟨by decide, by decide⟩, by decide +kernel, rfl⟩
theorem ci_X11_type : Cond.instanceMethod (mY mX11_type) ∈ BIG := bw_592
theorem cv_X11_type : CV mX11_type := ⟨ci_X11_type, bw_593⟩
theorem cl_RL_15 : CL RL 15 mX11_addParty := Or.inl bw_675
theorem cm_X11_addParty : CM mX11_addParty 0 := ⟨bw_678, bw_1, ⟨by decide, by decide⟩, by decide +kernel, rfl⟩
theorem ci_X11_addParty : Cond.instanceMethod (mY mX11_addParty) ∈ BIG := bw_676
theorem cv_X11_addParty : CV mX11_addParty := ⟨ci_X11_addParty, bw_677⟩
theorem cl_RL_21 : CL RL 21 mX11_findParty := Or.inl bw_836
theorem cm_X11_findParty : CM mX11_findParty 0 := ⟨bw_839, bw_1, ⟨by decide, by decide⟩, by decide +kernel, rfl⟩
theorem ci_X11_findParty : Cond.instanceMethod (mY mX11_findParty) ∈ BIG := bw_837
theorem cv_X11_findParty : CV mX11_findParty := ⟨ci_X11_findParty, bw_838⟩
theorem cl_RL_26 : CL RL 26 mX11_nameLength := Or.inl bw_865
theorem cm_X11_nameLength : CM mX11_nameLength 1 := ⟨bw_868, bw_1, ⟨by decide, by decide⟩, by decide +kernel, rfl⟩
theorem ci_X11_nameLength : Cond.instanceMethod (mY mX11_nameLength) ∈ BIG := bw_866
theorem cv_X11_nameLength : CV mX11_nameLength := ⟨ci_X11_nameLength, bw_867⟩
theorem cl_RL_32 : CL RL 32 mX11_nameCodePoint := Or.inl bw_881
theorem cm_X11_nameCodePoint : CM mX11_nameCodePoint 2 := ⟨bw_884, bw_1, ⟨by decide, by decide⟩, by decide +kernel, rfl⟩
theorem ci_X11_nameCodePoint : Cond.instanceMethod (mY mX11_nameCodePoint) ∈ BIG := bw_882
theorem cv_X11_nameCodePoint : CV mX11_nameCodePoint := ⟨ci_X11_nameCodePoint, bw_883⟩
theorem cl_RL_36 : CL RL 36 mX11_writeNameReversed := Or.inl bw_889
theorem cm_X11_writeNameReversed : CM mX11_writeNameReversed 1 := ⟨bw_892, bw_1, ⟨by decide, by decide⟩, by decide +kernel, rfl⟩
theorem ci_X11_writeNameReversed : Cond.instanceMethod (mY mX11_writeNameReversed) ∈ BIG := bw_890
theorem cv_X11_writeNameReversed : CV mX11_writeNameReversed := ⟨ci_X11_writeNameReversed, bw_891⟩
theorem cl_RL_39 : CL RL 39 mX11_advance := Or.inl bw_901
theorem cm_X11_advance : CM mX11_advance 1 := ⟨bw_904, bw_1, ⟨by decide, by decide⟩, by decide +kernel, rfl⟩
theorem ci_X11_advance : Cond.instanceMethod (mY mX11_advance) ∈ BIG := bw_902
theorem cv_X11_advance : CV mX11_advance := ⟨ci_X11_advance, bw_903⟩
theorem cl_RL_42 : CL RL 42 mX11_weekday := Or.inl bw_912
theorem cm_X11_weekday : CM mX11_weekday 1 := ⟨bw_915, bw_1, ⟨by decide, by decide⟩, by decide +kernel, rfl⟩
theorem ci_X11_weekday : Cond.instanceMethod (mY mX11_weekday) ∈ BIG := bw_913
theorem cv_X11_weekday : CV mX11_weekday := ⟨ci_X11_weekday, bw_914⟩
theorem cl_RL_45 : CL RL 45 mX11_isCourtDay := Or.inl bw_924
theorem cm_X11_isCourtDay : CM mX11_isCourtDay 1 := ⟨bw_927, bw_1, ⟨by decide, by decide⟩, by decide +kernel, rfl⟩
theorem ci_X11_isCourtDay : Cond.instanceMethod (mY mX11_isCourtDay) ∈ BIG := bw_925
theorem cv_X11_isCourtDay : CV mX11_isCourtDay := ⟨ci_X11_isCourtDay, bw_926⟩
theorem cl_RL_49 : CL RL 49 mX11_addHoliday := Or.inl bw_932
theorem cm_X11_addHoliday : CM mX11_addHoliday 1 := ⟨bw_935, bw_1, ⟨by decide, by decide⟩, by decide +kernel, rfl⟩
theorem ci_X11_addHoliday : Cond.instanceMethod (mY mX11_addHoliday) ∈ BIG := bw_933
theorem cv_X11_addHoliday : CV mX11_addHoliday := ⟨ci_X11_addHoliday, bw_934⟩
theorem cl_RL_52 : CL RL 52 mX11_removeHoliday := Or.inl bw_951
theorem cm_X11_removeHoliday : CM mX11_removeHoliday 1 := ⟨bw_954, bw_1, ⟨by decide, by decide⟩, by decide +kernel, rfl⟩
theorem ci_X11_removeHoliday : Cond.instanceMethod (mY mX11_removeHoliday) ∈ BIG := bw_952
theorem cv_X11_removeHoliday : CV mX11_removeHoliday := ⟨ci_X11_removeHoliday, bw_953⟩
theorem cl_RL_55 : CL RL 55 mX11_courtDays := Or.inl bw_966
theorem cm_X11_courtDays : CM mX11_courtDays 2 := ⟨bw_969, bw_1, ⟨by decide, by decide⟩, by decide +kernel, rfl⟩
theorem ci_X11_courtDays : Cond.instanceMethod (mY mX11_courtDays) ∈ BIG := bw_967
theorem cv_X11_courtDays : CV mX11_courtDays := ⟨ci_X11_courtDays, bw_968⟩
theorem cl_RL_58 : CL RL 58 mX11_courtDaysByMarking := Or.inl bw_977
theorem cm_X11_courtDaysByMarking : CM mX11_courtDaysByMarking 2 := ⟨bw_980, bw_1, ⟨by decide, by decide⟩, by decide +kernel, rfl⟩
theorem ci_X11_courtDaysByMarking : Cond.instanceMethod (mY mX11_courtDaysByMarking) ∈ BIG := bw_978
theorem cv_X11_courtDaysByMarking : CV mX11_courtDaysByMarking := ⟨ci_X11_courtDaysByMarking, bw_979⟩
theorem cl_RL_61 : CL RL 61 mX11_setRule := Or.inl bw_984
theorem cm_X11_setRule : CM mX11_setRule 3 := ⟨bw_987, bw_1, ⟨by decide, by decide⟩, by decide +kernel, rfl⟩
theorem ci_X11_setRule : Cond.instanceMethod (mY mX11_setRule) ∈ BIG := bw_985
theorem cv_X11_setRule : CV mX11_setRule := ⟨ci_X11_setRule, bw_986⟩
theorem cl_RL_65 : CL RL 65 mX11_ruleLength := Or.inl bw_998
theorem cm_X11_ruleLength : CM mX11_ruleLength 1 := ⟨bw_1001, bw_1, ⟨by decide, by decide⟩, by decide +kernel, rfl⟩
theorem ci_X11_ruleLength : Cond.instanceMethod (mY mX11_ruleLength) ∈ BIG := bw_999
theorem cv_X11_ruleLength : CV mX11_ruleLength := ⟨ci_X11_ruleLength, bw_1000⟩
theorem cl_RL_68 : CL RL 68 mX11_countsCourtDays := Or.inl bw_1009
theorem cm_X11_countsCourtDays : CM mX11_countsCourtDays 1 := ⟨bw_1012, bw_1, ⟨by decide, by decide⟩, by decide +kernel, rfl⟩
theorem ci_X11_countsCourtDays : Cond.instanceMethod (mY mX11_countsCourtDays) ∈ BIG := bw_1010
theorem cv_X11_countsCourtDays : CV mX11_countsCourtDays := ⟨ci_X11_countsCourtDays, bw_1011⟩
theorem cl_RL_71 : CL RL 71 mX11_setServiceDays := Or.inl bw_1016
theorem cm_X11_setServiceDays : CM mX11_setServiceDays 2 := ⟨bw_1019, bw_1, ⟨by decide, by decide⟩, by decide +kernel, rfl⟩
theorem ci_X11_setServiceDays : Cond.instanceMethod (mY mX11_setServiceDays) ∈ BIG := bw_1017
theorem cv_X11_setServiceDays : CV mX11_setServiceDays := ⟨ci_X11_setServiceDays, bw_1018⟩
theorem cl_RL_75 : CL RL 75 mX11_serviceDays := Or.inl bw_1030
theorem cm_X11_serviceDays : CM mX11_serviceDays 1 := ⟨bw_1033, bw_1, ⟨by decide, by decide⟩, by decide +kernel, rfl⟩
theorem ci_X11_serviceDays : Cond.instanceMethod (mY mX11_serviceDays) ∈ BIG := bw_1031
theorem cv_X11_serviceDays : CV mX11_serviceDays := ⟨ci_X11_serviceDays, bw_1032⟩
theorem cl_RL_78 : CL RL 78 mX11_lastDayBefore := Or.inl bw_1038
theorem cm_X11_lastDayBefore : CM mX11_lastDayBefore 2 := ⟨bw_1041, bw_1, ⟨by decide, by decide⟩, by decide +kernel, rfl⟩
theorem ci_X11_lastDayBefore : Cond.instanceMethod (mY mX11_lastDayBefore) ∈ BIG := bw_1039
theorem cv_X11_lastDayBefore : CV mX11_lastDayBefore := ⟨ci_X11_lastDayBefore, bw_1040⟩
theorem cl_RL_81 : CL RL 81 mX11_lastDayBeforeByMarking := Or.inl bw_1057
theorem cm_X11_lastDayBeforeByMarking : CM mX11_lastDayBeforeByMarking 2 := ⟨bw_1060, bw_1, ⟨by decide, by decide⟩, by decide +kernel, rfl⟩
theorem ci_X11_lastDayBeforeByMarking : Cond.instanceMethod (mY mX11_lastDayBeforeByMarking) ∈ BIG := bw_1058
theorem cv_X11_lastDayBeforeByMarking : CV mX11_lastDayBeforeByMarking := ⟨ci_X11_lastDayBeforeByMarking, bw_1059⟩
theorem cl_RL_84 : CL RL 84 mX11_serve := Or.inl bw_1068
theorem cm_X11_serve : CM mX11_serve 3 := ⟨bw_1071, bw_1, ⟨by decide, by decide⟩, by decide +kernel, rfl⟩
theorem ci_X11_serve : Cond.instanceMethod (mY mX11_serve) ∈ BIG := bw_1069
theorem cv_X11_serve : CV mX11_serve := ⟨ci_X11_serve, bw_1070⟩
theorem cl_RL_88 : CL RL 88 mX11_due := Or.inl bw_1088
theorem cm_X11_due : CM mX11_due 1 := ⟨bw_1091, bw_1, ⟨by decide, by decide⟩, by decide +kernel, rfl⟩
theorem ci_X11_due : Cond.instanceMethod (mY mX11_due) ∈ BIG := bw_1089
theorem cv_X11_due : CV mX11_due := ⟨ci_X11_due, bw_1090⟩
theorem cl_RL_91 : CL RL 91 mX11_dueByMarking := Or.inl bw_1108
theorem cm_X11_dueByMarking : CM mX11_dueByMarking 1 := ⟨bw_1111, bw_1, ⟨by decide, by decide⟩, by decide +kernel, rfl⟩
theorem ci_X11_dueByMarking : Cond.instanceMethod (mY mX11_dueByMarking) ∈ BIG := bw_1109
theorem cv_X11_dueByMarking : CV mX11_dueByMarking := ⟨ci_X11_dueByMarking, bw_1110⟩
theorem cl_RL_94 : CL RL 94 mX11_daysLeft := Or.inl bw_1115
theorem cm_X11_daysLeft : CM mX11_daysLeft 1 := ⟨bw_1118, bw_1, ⟨by decide, by decide⟩, by decide +kernel, rfl⟩
theorem ci_X11_daysLeft : Cond.instanceMethod (mY mX11_daysLeft) ∈ BIG := bw_1116
theorem cv_X11_daysLeft : CV mX11_daysLeft := ⟨ci_X11_daysLeft, bw_1117⟩
theorem cl_RL_97 : CL RL 97 mX11_daysLeftByMarking := Or.inl bw_1127
theorem cm_X11_daysLeftByMarking : CM mX11_daysLeftByMarking 1 := ⟨bw_1130, bw_1, ⟨by decide, by decide⟩, by decide +kernel, rfl⟩
theorem ci_X11_daysLeftByMarking : Cond.instanceMethod (mY mX11_daysLeftByMarking) ∈ BIG := bw_1128
theorem cv_X11_daysLeftByMarking : CV mX11_daysLeftByMarking := ⟨ci_X11_daysLeftByMarking, bw_1129⟩
theorem cl_RL_100 : CL RL 100 mX11_extendByConsent := Or.inl bw_1135
theorem cm_X11_extendByConsent : CM mX11_extendByConsent 2 := ⟨bw_1138, bw_1, ⟨by decide, by decide⟩, by decide +kernel, rfl⟩
theorem ci_X11_extendByConsent : Cond.instanceMethod (mY mX11_extendByConsent) ∈ BIG := bw_1136
theorem cv_X11_extendByConsent : CV mX11_extendByConsent := ⟨ci_X11_extendByConsent, bw_1137⟩
theorem cl_RL_105 : CL RL 105 mX11_extendByOrder := Or.inl bw_1150
theorem cm_X11_extendByOrder : CM mX11_extendByOrder 2 := ⟨bw_1153, bw_1, ⟨by decide, by decide⟩, by decide +kernel, rfl⟩
theorem ci_X11_extendByOrder : Cond.instanceMethod (mY mX11_extendByOrder) ∈ BIG := bw_1151
theorem cv_X11_extendByOrder : CV mX11_extendByOrder := ⟨ci_X11_extendByOrder, bw_1152⟩
theorem cl_RL_108 : CL RL 108 mX11_extensionDays := Or.inl bw_1161
theorem cm_X11_extensionDays : CM mX11_extensionDays 1 := ⟨bw_1164, bw_1, ⟨by decide, by decide⟩, by decide +kernel, rfl⟩
theorem ci_X11_extensionDays : Cond.instanceMethod (mY mX11_extensionDays) ∈ BIG := bw_1162
theorem cv_X11_extensionDays : CV mX11_extensionDays := ⟨ci_X11_extensionDays, bw_1163⟩
theorem cl_RL_111 : CL RL 111 mX11_file := Or.inl bw_1168
theorem cm_X11_file : CM mX11_file 1 := ⟨bw_1171, bw_1, ⟨by decide, by decide⟩, by decide +kernel, rfl⟩
theorem ci_X11_file : Cond.instanceMethod (mY mX11_file) ∈ BIG := bw_1169
theorem cv_X11_file : CV mX11_file := ⟨ci_X11_file, bw_1170⟩
theorem cl_RL_114 : CL RL 114 mX11_strike := Or.inl bw_1179
theorem cm_X11_strike : CM mX11_strike 1 := ⟨bw_1182, bw_1, ⟨by decide, by decide⟩, by decide +kernel, rfl⟩
theorem ci_X11_strike : Cond.instanceMethod (mY mX11_strike) ∈ BIG := bw_1180
theorem cv_X11_strike : CV mX11_strike := ⟨ci_X11_strike, bw_1181⟩
theorem cl_RL_117 : CL RL 117 mX11_status := Or.inl bw_1195
theorem cm_X11_status : CM mX11_status 1 := ⟨bw_1198, bw_1, ⟨by decide, by decide⟩, by decide +kernel, rfl⟩
theorem ci_X11_status : Cond.instanceMethod (mY mX11_status) ∈ BIG := bw_1196
theorem cv_X11_status : CV mX11_status := ⟨ci_X11_status, bw_1197⟩
theorem cl_RL_121 : CL RL 121 mX11_openAt := Or.inl bw_1202
theorem cm_X11_openAt : CM mX11_openAt 1 := ⟨bw_1205, bw_1, ⟨by decide, by decide⟩, by decide +kernel, rfl⟩
theorem ci_X11_openAt : Cond.instanceMethod (mY mX11_openAt) ∈ BIG := bw_1203
theorem cv_X11_openAt : CV mX11_openAt := ⟨ci_X11_openAt, bw_1204⟩
theorem cl_RL_124 : CL RL 124 mX11_busiestDay := Or.inl bw_1214
theorem cm_X11_busiestDay : CM mX11_busiestDay 0 := ⟨bw_1217, bw_1, ⟨by decide, by decide⟩, by decide +kernel, rfl⟩
theorem ci_X11_busiestDay : Cond.instanceMethod (mY mX11_busiestDay) ∈ BIG := bw_1215
theorem cv_X11_busiestDay : CV mX11_busiestDay := ⟨ci_X11_busiestDay, bw_1216⟩
theorem cl_RL_127 : CL RL 127 mX11_meanDaysLeft := Or.inl bw_1239
theorem cm_X11_meanDaysLeft : CM mX11_meanDaysLeft 0 := ⟨bw_1242, bw_1, ⟨by decide, by decide⟩, by decide +kernel, rfl⟩
theorem ci_X11_meanDaysLeft : Cond.instanceMethod (mY mX11_meanDaysLeft) ∈ BIG := bw_1240
theorem cv_X11_meanDaysLeft : CV mX11_meanDaysLeft := ⟨ci_X11_meanDaysLeft, bw_1241⟩
theorem cl_RL_133 : CL RL 133 mX11_stayParty := Or.inl bw_1249
theorem cm_X11_stayParty : CM mX11_stayParty 2 := ⟨bw_1252, bw_1, ⟨by decide, by decide⟩, by decide +kernel, rfl⟩
theorem ci_X11_stayParty : Cond.instanceMethod (mY mX11_stayParty) ∈ BIG := bw_1250
theorem cv_X11_stayParty : CV mX11_stayParty := ⟨ci_X11_stayParty, bw_1251⟩
theorem cl_RL_136 : CL RL 136 mX11_stayAll := Or.inl bw_1268
theorem cm_X11_stayAll : CM mX11_stayAll 1 := ⟨bw_1271, bw_1, ⟨by decide, by decide⟩, by decide +kernel, rfl⟩
theorem ci_X11_stayAll : Cond.instanceMethod (mY mX11_stayAll) ∈ BIG := bw_1269
theorem cv_X11_stayAll : CV mX11_stayAll := ⟨ci_X11_stayAll, bw_1270⟩
theorem cl_RL_139 : CL RL 139 mX11_lift := Or.inl bw_1275
theorem cm_X11_lift : CM mX11_lift 1 := ⟨bw_1278, bw_1, ⟨by decide, by decide⟩, by decide +kernel, rfl⟩
theorem ci_X11_lift : Cond.instanceMethod (mY mX11_lift) ∈ BIG := bw_1276
theorem cv_X11_lift : CV mX11_lift := ⟨ci_X11_lift, bw_1277⟩
theorem cl_RL_142 : CL RL 142 mX11_isStopped := Or.inl bw_1291
theorem cm_X11_isStopped : CM mX11_isStopped 2 := ⟨bw_1294, bw_1, ⟨by decide, by decide⟩, by decide +kernel, rfl⟩
theorem ci_X11_isStopped : Cond.instanceMethod (mY mX11_isStopped) ∈ BIG := bw_1292
theorem cv_X11_isStopped : CV mX11_isStopped := ⟨ci_X11_isStopped, bw_1293⟩
theorem cl_RL_146 : CL RL 146 mX11_stoppedDays := Or.inl bw_1298
theorem cm_X11_stoppedDays : CM mX11_stoppedDays 3 := ⟨bw_1301, bw_1, ⟨by decide, by decide⟩, by decide +kernel, rfl⟩
theorem ci_X11_stoppedDays : Cond.instanceMethod (mY mX11_stoppedDays) ∈ BIG := bw_1299
theorem cv_X11_stoppedDays : CV mX11_stoppedDays := ⟨ci_X11_stoppedDays, bw_1300⟩
theorem cl_RL_150 : CL RL 150 mX11_stoppedDaysByMarking := Or.inl bw_1305
theorem cm_X11_stoppedDaysByMarking : CM mX11_stoppedDaysByMarking 3 := ⟨bw_1308, bw_1, ⟨by decide, by decide⟩, by decide +kernel, rfl⟩
theorem ci_X11_stoppedDaysByMarking : Cond.instanceMethod (mY mX11_stoppedDaysByMarking) ∈ BIG := bw_1306
theorem cv_X11_stoppedDaysByMarking : CV mX11_stoppedDaysByMarking := ⟨ci_X11_stoppedDaysByMarking, bw_1307⟩
theorem cl_RL_153 : CL RL 153 mX11_addOccurrence := Or.inl bw_1312
theorem cm_X11_addOccurrence : CM mX11_addOccurrence 2 := ⟨bw_1315, bw_1, ⟨by decide, by decide⟩, by decide +kernel, rfl⟩
theorem ci_X11_addOccurrence : Cond.instanceMethod (mY mX11_addOccurrence) ∈ BIG := bw_1313
theorem cv_X11_addOccurrence : CV mX11_addOccurrence := ⟨ci_X11_addOccurrence, bw_1314⟩
theorem cl_RL_156 : CL RL 156 mX11_linkOccurrences := Or.inl bw_1328
theorem cm_X11_linkOccurrences : CM mX11_linkOccurrences 2 := ⟨bw_1331, bw_1, ⟨by decide, by decide⟩, by decide +kernel, rfl⟩
theorem ci_X11_linkOccurrences : Cond.instanceMethod (mY mX11_linkOccurrences) ∈ BIG := bw_1329
theorem cv_X11_linkOccurrences : CV mX11_linkOccurrences := ⟨ci_X11_linkOccurrences, bw_1330⟩
theorem cl_RL_159 : CL RL 159 mX11_sameConduct := Or.inl bw_1353
theorem cm_X11_sameConduct : CM mX11_sameConduct 2 := ⟨bw_1356, bw_1, ⟨by decide, by decide⟩, by decide +kernel, rfl⟩
theorem ci_X11_sameConduct : Cond.instanceMethod (mY mX11_sameConduct) ∈ BIG := bw_1354
theorem cv_X11_sameConduct : CV mX11_sameConduct := ⟨ci_X11_sameConduct, bw_1355⟩
theorem cl_RL_162 : CL RL 162 mX11_sameConductBySearch := Or.inl bw_1365
theorem cm_X11_sameConductBySearch : CM mX11_sameConductBySearch 2 := ⟨bw_1368, bw_1, ⟨by decide, by decide⟩, by decide +kernel, rfl⟩
theorem ci_X11_sameConductBySearch : Cond.instanceMethod (mY mX11_sameConductBySearch) ∈ BIG := bw_1366
theorem cv_X11_sameConductBySearch : CV mX11_sameConductBySearch := ⟨ci_X11_sameConductBySearch, bw_1367⟩
theorem cl_RL_165 : CL RL 165 mX11_barDay := Or.inl bw_1372
theorem cm_X11_barDay : CM mX11_barDay 1 := ⟨bw_1375, bw_1, ⟨by decide, by decide⟩, by decide +kernel, rfl⟩
theorem ci_X11_barDay : Cond.instanceMethod (mY mX11_barDay) ∈ BIG := bw_1373
theorem cv_X11_barDay : CV mX11_barDay := ⟨ci_X11_barDay, bw_1374⟩
theorem cl_RL_168 : CL RL 168 mX11_fileClaim := Or.inl bw_1379
theorem cm_X11_fileClaim : CM mX11_fileClaim 2 := ⟨bw_1382, bw_1, ⟨by decide, by decide⟩, by decide +kernel, rfl⟩
theorem ci_X11_fileClaim : Cond.instanceMethod (mY mX11_fileClaim) ∈ BIG := bw_1380
theorem cv_X11_fileClaim : CV mX11_fileClaim := ⟨ci_X11_fileClaim, bw_1381⟩
theorem cl_RL_171 : CL RL 171 mX11_amendClaim := Or.inl bw_1394
theorem cm_X11_amendClaim : CM mX11_amendClaim 2 := ⟨bw_1397, bw_1, ⟨by decide, by decide⟩, by decide +kernel, rfl⟩
theorem ci_X11_amendClaim : Cond.instanceMethod (mY mX11_amendClaim) ∈ BIG := bw_1395
theorem cv_X11_amendClaim : CV mX11_amendClaim := ⟨ci_X11_amendClaim, bw_1396⟩
theorem cl_RL_174 : CL RL 174 mX11_effectiveDay := Or.inl bw_1409
theorem cm_X11_effectiveDay : CM mX11_effectiveDay 1 := ⟨bw_1412, bw_1, ⟨by decide, by decide⟩, by decide +kernel, rfl⟩
theorem ci_X11_effectiveDay : Cond.instanceMethod (mY mX11_effectiveDay) ∈ BIG := bw_1410
theorem cv_X11_effectiveDay : CV mX11_effectiveDay := ⟨ci_X11_effectiveDay, bw_1411⟩
theorem cl_RL_177 : CL RL 177 mX11_isTimely := Or.inl bw_1430
theorem cm_X11_isTimely : CM mX11_isTimely 1 := ⟨bw_1433, bw_1, ⟨by decide, by decide⟩, by decide +kernel, rfl⟩
theorem ci_X11_isTimely : Cond.instanceMethod (mY mX11_isTimely) ∈ BIG := bw_1431
theorem cv_X11_isTimely : CV mX11_isTimely := ⟨ci_X11_isTimely, bw_1432⟩
theorem cl_RL_180 : CL RL 180 mX11_timelyClaims := Or.inl bw_1441
theorem cm_X11_timelyClaims : CM mX11_timelyClaims 1 := ⟨bw_1444, bw_1, ⟨by decide, by decide⟩, by decide +kernel, rfl⟩
theorem ci_X11_timelyClaims : Cond.instanceMethod (mY mX11_timelyClaims) ∈ BIG := bw_1442
theorem cv_X11_timelyClaims : CV mX11_timelyClaims := ⟨ci_X11_timelyClaims, bw_1443⟩
theorem cl_RL_183 : CL RL 183 mX11_writeDeadline := Or.inl bw_1448
theorem cm_X11_writeDeadline : CM mX11_writeDeadline 1 := ⟨bw_1451, bw_1, ⟨by decide, by decide⟩, by decide +kernel, rfl⟩
theorem ci_X11_writeDeadline : Cond.instanceMethod (mY mX11_writeDeadline) ∈ BIG := bw_1449
theorem cv_X11_writeDeadline : CV mX11_writeDeadline := ⟨ci_X11_writeDeadline, bw_1450⟩
theorem cl_RL_186 : CL RL 186 mX11_charAt := Or.inl bw_1459
theorem cm_X11_charAt : CM mX11_charAt 1 := ⟨bw_1462, bw_1, ⟨by decide, by decide⟩, by decide +kernel, rfl⟩
theorem ci_X11_charAt : Cond.instanceMethod (mY mX11_charAt) ∈ BIG := bw_1460
theorem cv_X11_charAt : CV mX11_charAt := ⟨ci_X11_charAt, bw_1461⟩
theorem cl_RL_189 : CL RL 189 mX11_run := Or.inl bw_1468
theorem cm_X11_run : CM mX11_run 0 := ⟨bw_1471, bw_1, ⟨by decide, by decide⟩, by decide +kernel, rfl⟩
theorem ci_X11_run : Cond.instanceMethod (mY mX11_run) ∈ BIG := bw_1469
theorem cv_X11_run : CV mX11_run := ⟨ci_X11_run, bw_1470⟩
theorem cl_RL_192 : CL RL 192 mX11_errorPosition := Or.inl bw_1594
theorem cm_X11_errorPosition : CM mX11_errorPosition 0 := ⟨bw_1597, bw_1, ⟨by decide, by decide⟩, by decide +kernel, rfl⟩
theorem ci_X11_errorPosition : Cond.instanceMethod (mY mX11_errorPosition) ∈ BIG := bw_1595
theorem cv_X11_errorPosition : CV mX11_errorPosition := ⟨ci_X11_errorPosition, bw_1596⟩
theorem cl_RL_195 : CL RL 195 mX11_failedCommand := Or.inl bw_1602
theorem cm_X11_failedCommand : CM mX11_failedCommand 0 := ⟨bw_1605, bw_1, ⟨by decide, by decide⟩, by decide +kernel, rfl⟩
theorem ci_X11_failedCommand : Cond.instanceMethod (mY mX11_failedCommand) ∈ BIG := bw_1603
theorem cv_X11_failedCommand : CV mX11_failedCommand := ⟨ci_X11_failedCommand, bw_1604⟩
theorem cl_RL_198 : CL RL 198 mX11_undo := Or.inl bw_1610
theorem cm_X11_undo : CM mX11_undo 0 := ⟨bw_1613, bw_1, ⟨by decide, by decide⟩, by decide +kernel, rfl⟩
theorem ci_X11_undo : Cond.instanceMethod (mY mX11_undo) ∈ BIG := bw_1611
theorem cv_X11_undo : CV mX11_undo := ⟨ci_X11_undo, bw_1612⟩
theorem fn_RL_8 : FN RL 8 11 := ⟨RX11, TX11, 13, tyX11, rfl, rfl, inB11, tyX11_ok, by decide +kernel, bw_30, bw_31, bw_1⟩
theorem cl_RL_201 : CL RL 201 mX11_init := Or.inl bw_32
theorem cm_X11_init : CM mX11_init 0 := ⟨bw_34, bw_1, ⟨by decide, by decide⟩, by decide +kernel, rfl⟩
theorem ci_X11_init : Cond.instanceMethod (mY mX11_init) ∈ BIG := bw_33
theorem fn_RL_202 : FN RL 202 12 := ⟨RX12, TX12, 19, tyX12, rfl, rfl, inB12, tyX12_ok, by decide +kernel, bw_1615, bw_1616, bw_13⟩
theorem cl_RL_204 : CL RL 204 mX12_init := Or.inl bw_1617
theorem cm_X12_init : CM mX12_init 0 := ⟨bw_1619, bw_13, ⟨by decide, by decide⟩, by decide +kernel, rfl⟩
theorem ci_X12_init : Cond.instanceMethod (mY mX12_init) ∈ BIG := bw_1618
theorem cl_RL_210 : CL RL 210 mX12_type := Or.inl bw_1691
theorem cm_X12_type : CM mX12_type 1 := ⟨bw_1694, bw_13, ⟨by decide, by decide⟩, by decide +kernel, rfl⟩
theorem ci_X12_type : Cond.instanceMethod (mY mX12_type) ∈ BIG := bw_1692
theorem cv_X12_type : CV mX12_type := ⟨ci_X12_type, bw_1693⟩
theorem cl_RL_211 : CL RL 211 mX12_thrown := Or.inl bw_1679
theorem cm_X12_thrown : CM mX12_thrown 0 := ⟨bw_1682, bw_13, ⟨by decide, by decide⟩, by decide +kernel, rfl⟩
theorem ci_X12_thrown : Cond.instanceMethod (mY mX12_thrown) ∈ BIG := bw_1680
theorem cv_X12_thrown : CV mX12_thrown := ⟨ci_X12_thrown, bw_1681⟩
theorem cl_RL_217 : CL RL 217 mX12_addParty := Or.inl bw_1695
theorem cm_X12_addParty : CM mX12_addParty 0 := ⟨bw_1698, bw_13, ⟨by decide, by decide⟩, by decide +kernel, rfl⟩
theorem ci_X12_addParty : Cond.instanceMethod (mY mX12_addParty) ∈ BIG := bw_1696
theorem cv_X12_addParty : CV mX12_addParty := ⟨ci_X12_addParty, bw_1697⟩
theorem cl_RL_220 : CL RL 220 mX12_findParty := Or.inl bw_1732
theorem cm_X12_findParty : CM mX12_findParty 0 := ⟨bw_1735, bw_13, ⟨by decide, by decide⟩, by decide +kernel, rfl⟩
theorem ci_X12_findParty : Cond.instanceMethod (mY mX12_findParty) ∈ BIG := bw_1733
theorem cv_X12_findParty : CV mX12_findParty := ⟨ci_X12_findParty, bw_1734⟩
theorem cl_RL_221 : CL RL 221 mX11_parties := Or.inl bw_393
theorem cm_X11_parties : CM mX11_parties 0 := ⟨bw_396, bw_1, ⟨by decide, by decide⟩, by decide +kernel, rfl⟩
theorem ci_X11_parties : Cond.instanceMethod (mY mX11_parties) ∈ BIG := bw_394
theorem cv_X11_parties : CV mX11_parties := ⟨ci_X11_parties, bw_395⟩
theorem cl_RL_224 : CL RL 224 mX12_parties := Or.inl bw_1736
theorem cm_X12_parties : CM mX12_parties 0 := ⟨bw_1739, bw_13, ⟨by decide, by decide⟩, by decide +kernel, rfl⟩
theorem ci_X12_parties : Cond.instanceMethod (mY mX12_parties) ∈ BIG := bw_1737
theorem cv_X12_parties : CV mX12_parties := ⟨ci_X12_parties, bw_1738⟩
theorem cl_RL_228 : CL RL 228 mX12_nameLength := Or.inl bw_1740
theorem cm_X12_nameLength : CM mX12_nameLength 1 := ⟨bw_1743, bw_13, ⟨by decide, by decide⟩, by decide +kernel, rfl⟩
theorem ci_X12_nameLength : Cond.instanceMethod (mY mX12_nameLength) ∈ BIG := bw_1741
theorem cv_X12_nameLength : CV mX12_nameLength := ⟨ci_X12_nameLength, bw_1742⟩
theorem cl_RL_232 : CL RL 232 mX12_nameCodePoint := Or.inl bw_1748
theorem cm_X12_nameCodePoint : CM mX12_nameCodePoint 2 := ⟨bw_1751, bw_13, ⟨by decide, by decide⟩, by decide +kernel, rfl⟩
theorem ci_X12_nameCodePoint : Cond.instanceMethod (mY mX12_nameCodePoint) ∈ BIG := bw_1749
theorem cv_X12_nameCodePoint : CV mX12_nameCodePoint := ⟨ci_X12_nameCodePoint, bw_1750⟩
theorem cl_RL_235 : CL RL 235 mX12_writeNameReversed := Or.inl bw_1752
theorem cm_X12_writeNameReversed : CM mX12_writeNameReversed 1 := ⟨bw_1755, bw_13, ⟨by decide, by decide⟩, by decide +kernel, rfl⟩
theorem ci_X12_writeNameReversed : Cond.instanceMethod (mY mX12_writeNameReversed) ∈ BIG := bw_1753
theorem cv_X12_writeNameReversed : CV mX12_writeNameReversed := ⟨ci_X12_writeNameReversed, bw_1754⟩
theorem cl_RL_236 : CL RL 236 mX11_today := Or.inl bw_397
theorem cm_X11_today : CM mX11_today 0 := ⟨bw_400, bw_1, ⟨by decide, by decide⟩, by decide +kernel, rfl⟩
theorem ci_X11_today : Cond.instanceMethod (mY mX11_today) ∈ BIG := bw_398
theorem cv_X11_today : CV mX11_today := ⟨ci_X11_today, bw_399⟩
theorem cl_RL_239 : CL RL 239 mX12_today := Or.inl bw_1760
theorem cm_X12_today : CM mX12_today 0 := ⟨bw_1763, bw_13, ⟨by decide, by decide⟩, by decide +kernel, rfl⟩
theorem ci_X12_today : Cond.instanceMethod (mY mX12_today) ∈ BIG := bw_1761
theorem cv_X12_today : CV mX12_today := ⟨ci_X12_today, bw_1762⟩
theorem cl_RL_242 : CL RL 242 mX12_advance := Or.inl bw_1764
theorem cl_RL_245 : CL RL 245 mX12_weekday := Or.inl bw_1768
theorem cm_X12_weekday : CM mX12_weekday 1 := ⟨bw_1771, bw_13, ⟨by decide, by decide⟩, by decide +kernel, rfl⟩
theorem ci_X12_weekday : Cond.instanceMethod (mY mX12_weekday) ∈ BIG := bw_1769
theorem cv_X12_weekday : CV mX12_weekday := ⟨ci_X12_weekday, bw_1770⟩
theorem cl_RL_248 : CL RL 248 mX12_isCourtDay := Or.inl bw_1775
theorem cm_X12_isCourtDay : CM mX12_isCourtDay 1 := ⟨bw_1778, bw_13, ⟨by decide, by decide⟩, by decide +kernel, rfl⟩
theorem ci_X12_isCourtDay : Cond.instanceMethod (mY mX12_isCourtDay) ∈ BIG := bw_1776
theorem cv_X12_isCourtDay : CV mX12_isCourtDay := ⟨ci_X12_isCourtDay, bw_1777⟩
theorem cl_RL_251 : CL RL 251 mX12_addHoliday := Or.inl bw_1787
theorem cl_RL_254 : CL RL 254 mX12_removeHoliday := Or.inl bw_1791
theorem cm_X12_removeHoliday : CM mX12_removeHoliday 1 := ⟨bw_1794, bw_13, ⟨by decide, by decide⟩, by decide +kernel, rfl⟩
theorem ci_X12_removeHoliday : Cond.instanceMethod (mY mX12_removeHoliday) ∈ BIG := bw_1792
theorem cv_X12_removeHoliday : CV mX12_removeHoliday := ⟨ci_X12_removeHoliday, bw_1793⟩
theorem cl_RL_257 : CL RL 257 mX12_courtDays := Or.inl bw_1795
theorem cl_RL_260 : CL RL 260 mX12_courtDaysByMarking := Or.inl bw_1799
theorem cm_X12_courtDaysByMarking : CM mX12_courtDaysByMarking 2 := ⟨bw_1802, bw_13, ⟨by decide, by decide⟩, by decide +kernel, rfl⟩
theorem ci_X12_courtDaysByMarking : Cond.instanceMethod (mY mX12_courtDaysByMarking) ∈ BIG := bw_1800
theorem cv_X12_courtDaysByMarking : CV mX12_courtDaysByMarking := ⟨ci_X12_courtDaysByMarking, bw_1801⟩
theorem cl_RL_264 : CL RL 264 mX12_setRule := Or.inl bw_1804
theorem cm_X12_setRule : CM mX12_setRule 3 := ⟨bw_1807, bw_13, ⟨by decide, by decide⟩, by decide +kernel, rfl⟩
theorem ci_X12_setRule : Cond.instanceMethod (mY mX12_setRule) ∈ BIG := bw_1805
theorem cv_X12_setRule : CV mX12_setRule := ⟨ci_X12_setRule, bw_1806⟩
theorem cl_RL_267 : CL RL 267 mX12_ruleLength := Or.inl bw_1811
theorem cm_X12_ruleLength : CM mX12_ruleLength 1 := ⟨bw_1814, bw_13, ⟨by decide, by decide⟩, by decide +kernel, rfl⟩
theorem ci_X12_ruleLength : Cond.instanceMethod (mY mX12_ruleLength) ∈ BIG := bw_1812
theorem cv_X12_ruleLength : CV mX12_ruleLength := ⟨ci_X12_ruleLength, bw_1813⟩
theorem cl_RL_270 : CL RL 270 mX12_countsCourtDays := Or.inl bw_1815
theorem cm_X12_countsCourtDays : CM mX12_countsCourtDays 1 := ⟨bw_1818, bw_13, ⟨by decide, by decide⟩, by decide +kernel, rfl⟩
theorem ci_X12_countsCourtDays : Cond.instanceMethod (mY mX12_countsCourtDays) ∈ BIG := bw_1816
theorem cv_X12_countsCourtDays : CV mX12_countsCourtDays := ⟨ci_X12_countsCourtDays, bw_1817⟩
theorem cl_RL_274 : CL RL 274 mX12_setServiceDays := Or.inl bw_1819
theorem cm_X12_setServiceDays : CM mX12_setServiceDays 2 := ⟨bw_1822, bw_13, ⟨by decide, by decide⟩, by decide +kernel, rfl⟩
theorem ci_X12_setServiceDays : Cond.instanceMethod (mY mX12_setServiceDays) ∈ BIG := bw_1820
theorem cv_X12_setServiceDays : CV mX12_setServiceDays := ⟨ci_X12_setServiceDays, bw_1821⟩
theorem cl_RL_277 : CL RL 277 mX12_serviceDays := Or.inl bw_1826
theorem cm_X12_serviceDays : CM mX12_serviceDays 1 := ⟨bw_1829, bw_13, ⟨by decide, by decide⟩, by decide +kernel, rfl⟩
theorem ci_X12_serviceDays : Cond.instanceMethod (mY mX12_serviceDays) ∈ BIG := bw_1827
theorem cv_X12_serviceDays : CV mX12_serviceDays := ⟨ci_X12_serviceDays, bw_1828⟩
theorem cl_RL_280 : CL RL 280 mX12_lastDayBefore := Or.inl bw_1830
theorem cl_RL_283 : CL RL 283 mX12_lastDayBeforeByMarking := Or.inl bw_1834
theorem cm_X12_lastDayBeforeByMarking : CM mX12_lastDayBeforeByMarking 2 := ⟨bw_1837, bw_13, ⟨by decide, by decide⟩, by decide +kernel, rfl⟩
theorem ci_X12_lastDayBeforeByMarking : Cond.instanceMethod (mY mX12_lastDayBeforeByMarking) ∈ BIG := bw_1835
theorem cv_X12_lastDayBeforeByMarking : CV mX12_lastDayBeforeByMarking := ⟨ci_X12_lastDayBeforeByMarking, bw_1836⟩
theorem cl_RL_287 : CL RL 287 mX12_serve := Or.inl bw_1839
theorem cl_RL_288 : CL RL 288 mX11_deadlines := Or.inl bw_401
theorem cm_X11_deadlines : CM mX11_deadlines 0 := ⟨bw_404, bw_1, ⟨by decide, by decide⟩, by decide +kernel, rfl⟩
theorem ci_X11_deadlines : Cond.instanceMethod (mY mX11_deadlines) ∈ BIG := bw_402
theorem cv_X11_deadlines : CV mX11_deadlines := ⟨ci_X11_deadlines, bw_403⟩
theorem cl_RL_291 : CL RL 291 mX12_deadlines := Or.inl bw_1846
theorem cm_X12_deadlines : CM mX12_deadlines 0 := ⟨bw_1849, bw_13, ⟨by decide, by decide⟩, by decide +kernel, rfl⟩
theorem ci_X12_deadlines : Cond.instanceMethod (mY mX12_deadlines) ∈ BIG := bw_1847
theorem cv_X12_deadlines : CV mX12_deadlines := ⟨ci_X12_deadlines, bw_1848⟩
theorem cl_RL_294 : CL RL 294 mX12_due := Or.inl bw_1850
theorem cl_RL_297 : CL RL 297 mX12_dueByMarking := Or.inl bw_1882
theorem cm_X12_dueByMarking : CM mX12_dueByMarking 1 := ⟨bw_1885, bw_13, ⟨by decide, by decide⟩, by decide +kernel, rfl⟩
theorem ci_X12_dueByMarking : Cond.instanceMethod (mY mX12_dueByMarking) ∈ BIG := bw_1883
theorem cv_X12_dueByMarking : CV mX12_dueByMarking := ⟨ci_X12_dueByMarking, bw_1884⟩
theorem cl_RL_300 : CL RL 300 mX12_daysLeft := Or.inl bw_1887
theorem cl_RL_303 : CL RL 303 mX12_daysLeftByMarking := Or.inl bw_1895
theorem cm_X12_daysLeftByMarking : CM mX12_daysLeftByMarking 1 := ⟨bw_1898, bw_13, ⟨by decide, by decide⟩, by decide +kernel, rfl⟩
theorem ci_X12_daysLeftByMarking : Cond.instanceMethod (mY mX12_daysLeftByMarking) ∈ BIG := bw_1896
theorem cv_X12_daysLeftByMarking : CV mX12_daysLeftByMarking := ⟨ci_X12_daysLeftByMarking, bw_1897⟩
theorem cl_RL_306 : CL RL 306 mX12_extendByConsent := Or.inl bw_1900
theorem cl_RL_309 : CL RL 309 mX12_extendByOrder := Or.inl bw_1920
theorem cm_X12_extendByOrder : CM mX12_extendByOrder 2 := ⟨bw_1923, bw_13, ⟨by decide, by decide⟩, by decide +kernel, rfl⟩
theorem ci_X12_extendByOrder : Cond.instanceMethod (mY mX12_extendByOrder) ∈ BIG := bw_1921
theorem cv_X12_extendByOrder : CV mX12_extendByOrder := ⟨ci_X12_extendByOrder, bw_1922⟩
theorem cl_RL_312 : CL RL 312 mX12_extensionDays := Or.inl bw_1924
theorem cm_X12_extensionDays : CM mX12_extensionDays 1 := ⟨bw_1927, bw_13, ⟨by decide, by decide⟩, by decide +kernel, rfl⟩
theorem ci_X12_extensionDays : Cond.instanceMethod (mY mX12_extensionDays) ∈ BIG := bw_1925
theorem cv_X12_extensionDays : CV mX12_extensionDays := ⟨ci_X12_extensionDays, bw_1926⟩
theorem cl_RL_315 : CL RL 315 mX12_file := Or.inl bw_1928
theorem cl_RL_318 : CL RL 318 mX12_strike := Or.inl bw_1932
theorem cm_X12_strike : CM mX12_strike 1 := ⟨bw_1935, bw_13, ⟨by decide, by decide⟩, by decide +kernel, rfl⟩
theorem ci_X12_strike : Cond.instanceMethod (mY mX12_strike) ∈ BIG := bw_1933
theorem cv_X12_strike : CV mX12_strike := ⟨ci_X12_strike, bw_1934⟩
theorem cl_RL_321 : CL RL 321 mX12_status := Or.inl bw_1936
theorem cm_X12_status : CM mX12_status 1 := ⟨bw_1939, bw_13, ⟨by decide, by decide⟩, by decide +kernel, rfl⟩
theorem ci_X12_status : Cond.instanceMethod (mY mX12_status) ∈ BIG := bw_1937
theorem cv_X12_status : CV mX12_status := ⟨ci_X12_status, bw_1938⟩
theorem cl_RL_324 : CL RL 324 mX12_openAt := Or.inl bw_1940
theorem cm_X12_openAt : CM mX12_openAt 1 := ⟨bw_1943, bw_13, ⟨by decide, by decide⟩, by decide +kernel, rfl⟩
theorem ci_X12_openAt : Cond.instanceMethod (mY mX12_openAt) ∈ BIG := bw_1941
theorem cv_X12_openAt : CV mX12_openAt := ⟨ci_X12_openAt, bw_1942⟩
theorem cl_RL_325 : CL RL 325 mX11_overdue := Or.inl bw_405
theorem cm_X11_overdue : CM mX11_overdue 0 := ⟨bw_408, bw_1, ⟨by decide, by decide⟩, by decide +kernel, rfl⟩
theorem ci_X11_overdue : Cond.instanceMethod (mY mX11_overdue) ∈ BIG := bw_406
theorem cv_X11_overdue : CV mX11_overdue := ⟨ci_X11_overdue, bw_407⟩
theorem cl_RL_328 : CL RL 328 mX12_overdue := Or.inl bw_1948
theorem cm_X12_overdue : CM mX12_overdue 0 := ⟨bw_1951, bw_13, ⟨by decide, by decide⟩, by decide +kernel, rfl⟩
theorem ci_X12_overdue : Cond.instanceMethod (mY mX12_overdue) ∈ BIG := bw_1949
theorem cv_X12_overdue : CV mX12_overdue := ⟨ci_X12_overdue, bw_1950⟩
theorem cl_RL_331 : CL RL 331 mX12_busiestDay := Or.inl bw_1952
theorem cm_X12_busiestDay : CM mX12_busiestDay 0 := ⟨bw_1955, bw_13, ⟨by decide, by decide⟩, by decide +kernel, rfl⟩
theorem ci_X12_busiestDay : Cond.instanceMethod (mY mX12_busiestDay) ∈ BIG := bw_1953
theorem cv_X12_busiestDay : CV mX12_busiestDay := ⟨ci_X12_busiestDay, bw_1954⟩
theorem cl_RL_335 : CL RL 335 mX12_meanDaysLeft := Or.inl bw_1956
theorem cm_X12_meanDaysLeft : CM mX12_meanDaysLeft 0 := ⟨bw_1959, bw_13, ⟨by decide, by decide⟩, by decide +kernel, rfl⟩
theorem ci_X12_meanDaysLeft : Cond.instanceMethod (mY mX12_meanDaysLeft) ∈ BIG := bw_1957
theorem cv_X12_meanDaysLeft : CV mX12_meanDaysLeft := ⟨ci_X12_meanDaysLeft, bw_1958⟩
theorem cl_RL_338 : CL RL 338 mX12_stayParty := Or.inl bw_1960
theorem cm_X12_stayParty : CM mX12_stayParty 2 := ⟨bw_1963, bw_13, ⟨by decide, by decide⟩, by decide +kernel, rfl⟩
theorem ci_X12_stayParty : Cond.instanceMethod (mY mX12_stayParty) ∈ BIG := bw_1961
theorem cv_X12_stayParty : CV mX12_stayParty := ⟨ci_X12_stayParty, bw_1962⟩
theorem cl_RL_341 : CL RL 341 mX12_stayAll := Or.inl bw_1968
theorem cl_RL_344 : CL RL 344 mX12_lift := Or.inl bw_1972
theorem cl_RL_345 : CL RL 345 mX11_staysInForce := Or.inl bw_487
theorem cm_X11_staysInForce : CM mX11_staysInForce 0 := ⟨bw_490, bw_1, ⟨by decide, by decide⟩, by decide +kernel, rfl⟩
theorem ci_X11_staysInForce : Cond.instanceMethod (mY mX11_staysInForce) ∈ BIG := bw_488
theorem cv_X11_staysInForce : CV mX11_staysInForce := ⟨ci_X11_staysInForce, bw_489⟩
theorem cl_RL_348 : CL RL 348 mX12_staysInForce := Or.inl bw_1976
theorem cm_X12_staysInForce : CM mX12_staysInForce 0 := ⟨bw_1979, bw_13, ⟨by decide, by decide⟩, by decide +kernel, rfl⟩
theorem ci_X12_staysInForce : Cond.instanceMethod (mY mX12_staysInForce) ∈ BIG := bw_1977
theorem cv_X12_staysInForce : CV mX12_staysInForce := ⟨ci_X12_staysInForce, bw_1978⟩
theorem cl_RL_351 : CL RL 351 mX12_isStopped := Or.inl bw_1980
theorem cm_X12_isStopped : CM mX12_isStopped 2 := ⟨bw_1983, bw_13, ⟨by decide, by decide⟩, by decide +kernel, rfl⟩
theorem ci_X12_isStopped : Cond.instanceMethod (mY mX12_isStopped) ∈ BIG := bw_1981
theorem cv_X12_isStopped : CV mX12_isStopped := ⟨ci_X12_isStopped, bw_1982⟩
theorem cl_RL_355 : CL RL 355 mX12_stoppedDays := Or.inl bw_1988
theorem cl_RL_358 : CL RL 358 mX12_stoppedDaysByMarking := Or.inl bw_1992
theorem cm_X12_stoppedDaysByMarking : CM mX12_stoppedDaysByMarking 3 := ⟨bw_1995, bw_13, ⟨by decide, by decide⟩, by decide +kernel, rfl⟩
theorem ci_X12_stoppedDaysByMarking : Cond.instanceMethod (mY mX12_stoppedDaysByMarking) ∈ BIG := bw_1993
theorem cv_X12_stoppedDaysByMarking : CV mX12_stoppedDaysByMarking := ⟨ci_X12_stoppedDaysByMarking, bw_1994⟩
theorem cl_RL_361 : CL RL 361 mX12_addOccurrence := Or.inl bw_1997
theorem cm_X12_addOccurrence : CM mX12_addOccurrence 2 := ⟨bw_2000, bw_13, ⟨by decide, by decide⟩, by decide +kernel, rfl⟩
theorem ci_X12_addOccurrence : Cond.instanceMethod (mY mX12_addOccurrence) ∈ BIG := bw_1998
theorem cv_X12_addOccurrence : CV mX12_addOccurrence := ⟨ci_X12_addOccurrence, bw_1999⟩
theorem cl_RL_364 : CL RL 364 mX12_linkOccurrences := Or.inl bw_2004
theorem cm_X12_linkOccurrences : CM mX12_linkOccurrences 2 := ⟨bw_2007, bw_13, ⟨by decide, by decide⟩, by decide +kernel, rfl⟩
theorem ci_X12_linkOccurrences : Cond.instanceMethod (mY mX12_linkOccurrences) ∈ BIG := bw_2005
theorem cv_X12_linkOccurrences : CV mX12_linkOccurrences := ⟨ci_X12_linkOccurrences, bw_2006⟩
theorem cl_RL_367 : CL RL 367 mX12_sameConduct := Or.inl bw_2016
theorem cl_RL_370 : CL RL 370 mX12_sameConductBySearch := Or.inl bw_2020
theorem cm_X12_sameConductBySearch : CM mX12_sameConductBySearch 2 := ⟨bw_2023, bw_13, ⟨by decide, by decide⟩, by decide +kernel, rfl⟩
theorem ci_X12_sameConductBySearch : Cond.instanceMethod (mY mX12_sameConductBySearch) ∈ BIG := bw_2021
theorem cv_X12_sameConductBySearch : CV mX12_sameConductBySearch := ⟨ci_X12_sameConductBySearch, bw_2022⟩
theorem cl_RL_373 : CL RL 373 mX12_barDay := Or.inl bw_2025
theorem cm_X12_barDay : CM mX12_barDay 1 := ⟨bw_2028, bw_13, ⟨by decide, by decide⟩, by decide +kernel, rfl⟩
theorem ci_X12_barDay : Cond.instanceMethod (mY mX12_barDay) ∈ BIG := bw_2026
theorem cv_X12_barDay : CV mX12_barDay := ⟨ci_X12_barDay, bw_2027⟩
theorem cl_RL_376 : CL RL 376 mX12_fileClaim := Or.inl bw_2033
theorem cm_X12_fileClaim : CM mX12_fileClaim 2 := ⟨bw_2036, bw_13, ⟨by decide, by decide⟩, by decide +kernel, rfl⟩
theorem ci_X12_fileClaim : Cond.instanceMethod (mY mX12_fileClaim) ∈ BIG := bw_2034
theorem cv_X12_fileClaim : CV mX12_fileClaim := ⟨ci_X12_fileClaim, bw_2035⟩
theorem cl_RL_379 : CL RL 379 mX12_amendClaim := Or.inl bw_2044
theorem cm_X12_amendClaim : CM mX12_amendClaim 2 := ⟨bw_2047, bw_13, ⟨by decide, by decide⟩, by decide +kernel, rfl⟩
theorem ci_X12_amendClaim : Cond.instanceMethod (mY mX12_amendClaim) ∈ BIG := bw_2045
theorem cv_X12_amendClaim : CV mX12_amendClaim := ⟨ci_X12_amendClaim, bw_2046⟩
theorem cl_RL_382 : CL RL 382 mX12_effectiveDay := Or.inl bw_2052
theorem cm_X12_effectiveDay : CM mX12_effectiveDay 1 := ⟨bw_2055, bw_13, ⟨by decide, by decide⟩, by decide +kernel, rfl⟩
theorem ci_X12_effectiveDay : Cond.instanceMethod (mY mX12_effectiveDay) ∈ BIG := bw_2053
theorem cv_X12_effectiveDay : CV mX12_effectiveDay := ⟨ci_X12_effectiveDay, bw_2054⟩
theorem cl_RL_385 : CL RL 385 mX12_isTimely := Or.inl bw_2060
theorem cm_X12_isTimely : CM mX12_isTimely 1 := ⟨bw_2063, bw_13, ⟨by decide, by decide⟩, by decide +kernel, rfl⟩
theorem ci_X12_isTimely : Cond.instanceMethod (mY mX12_isTimely) ∈ BIG := bw_2061
theorem cv_X12_isTimely : CV mX12_isTimely := ⟨ci_X12_isTimely, bw_2062⟩
theorem cl_RL_388 : CL RL 388 mX12_timelyClaims := Or.inl bw_2068
theorem cm_X12_timelyClaims : CM mX12_timelyClaims 1 := ⟨bw_2071, bw_13, ⟨by decide, by decide⟩, by decide +kernel, rfl⟩
theorem ci_X12_timelyClaims : Cond.instanceMethod (mY mX12_timelyClaims) ∈ BIG := bw_2069
theorem cv_X12_timelyClaims : CV mX12_timelyClaims := ⟨ci_X12_timelyClaims, bw_2070⟩
theorem cl_RL_391 : CL RL 391 mX12_writeDeadline := Or.inl bw_2072
theorem cm_X12_writeDeadline : CM mX12_writeDeadline 1 := ⟨bw_2075, bw_13, ⟨by decide, by decide⟩, by decide +kernel, rfl⟩
theorem ci_X12_writeDeadline : Cond.instanceMethod (mY mX12_writeDeadline) ∈ BIG := bw_2073
theorem cv_X12_writeDeadline : CV mX12_writeDeadline := ⟨ci_X12_writeDeadline, bw_2074⟩
theorem cl_RL_394 : CL RL 394 mX12_charAt := Or.inl bw_2080
theorem cm_X12_charAt : CM mX12_charAt 1 := ⟨bw_2083, bw_13, ⟨by decide, by decide⟩, by decide +kernel, rfl⟩
theorem ci_X12_charAt : Cond.instanceMethod (mY mX12_charAt) ∈ BIG := bw_2081
theorem cv_X12_charAt : CV mX12_charAt := ⟨ci_X12_charAt, bw_2082⟩
theorem cl_RL_395 : CL RL 395 mX11_isConsistent := Or.inl bw_499
theorem cm_X11_isConsistent : CM mX11_isConsistent 0 := ⟨bw_502, bw_1, ⟨by decide, by decide⟩, by decide +kernel, rfl⟩
theorem ci_X11_isConsistent : Cond.instanceMethod (mY mX11_isConsistent) ∈ BIG := bw_500
theorem cv_X11_isConsistent : CV mX11_isConsistent := ⟨ci_X11_isConsistent, bw_501⟩
theorem cl_RL_399 : CL RL 399 mX12_isConsistent := Or.inl bw_2084
theorem cm_X12_isConsistent : CM mX12_isConsistent 0 := ⟨bw_2087, bw_13, ⟨by decide, by decide⟩, by decide +kernel, rfl⟩
theorem ci_X12_isConsistent : Cond.instanceMethod (mY mX12_isConsistent) ∈ BIG := bw_2085
theorem cv_X12_isConsistent : CV mX12_isConsistent := ⟨ci_X12_isConsistent, bw_2086⟩
theorem cl_RL_402 : CL RL 402 mX12_run := Or.inl bw_2088
theorem cm_X12_run : CM mX12_run 0 := ⟨bw_2091, bw_13, ⟨by decide, by decide⟩, by decide +kernel, rfl⟩
theorem ci_X12_run : Cond.instanceMethod (mY mX12_run) ∈ BIG := bw_2089
theorem cv_X12_run : CV mX12_run := ⟨ci_X12_run, bw_2090⟩
theorem cl_RL_405 : CL RL 405 mX12_errorPosition := Or.inl bw_2139
theorem cm_X12_errorPosition : CM mX12_errorPosition 0 := ⟨bw_2142, bw_13, ⟨by decide, by decide⟩, by decide +kernel, rfl⟩
theorem ci_X12_errorPosition : Cond.instanceMethod (mY mX12_errorPosition) ∈ BIG := bw_2140
theorem cv_X12_errorPosition : CV mX12_errorPosition := ⟨ci_X12_errorPosition, bw_2141⟩
theorem cl_RL_408 : CL RL 408 mX12_failedCommand := Or.inl bw_2143
theorem cm_X12_failedCommand : CM mX12_failedCommand 0 := ⟨bw_2146, bw_13, ⟨by decide, by decide⟩, by decide +kernel, rfl⟩
theorem ci_X12_failedCommand : Cond.instanceMethod (mY mX12_failedCommand) ∈ BIG := bw_2144
theorem cv_X12_failedCommand : CV mX12_failedCommand := ⟨ci_X12_failedCommand, bw_2145⟩
theorem cl_RL_411 : CL RL 411 mX12_undo := Or.inl bw_1683
theorem cm_X12_undo : CM mX12_undo 0 := ⟨bw_1686, bw_13, ⟨by decide, by decide⟩, by decide +kernel, rfl⟩
theorem ci_X12_undo : Cond.instanceMethod (mY mX12_undo) ∈ BIG := bw_1684
theorem cv_X12_undo : CV mX12_undo := ⟨ci_X12_undo, bw_1685⟩
